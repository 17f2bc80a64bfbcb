/** Promise 2. */
final class AddNodeSentences extends Sentences {
    private static final int FILE = TarArchive.KIND_FILE;
    private static final int LINK = TarArchive.KIND_LINK;
    private static final int DIR = TarArchive.KIND_DIR;
    private static final int[] KINDS = {DIR, FILE, LINK};

    private AddNodeSentences() {
    }

    static void run() {
        section("Promise 2: addNode");
        says("`addNode(parent, kind, name, modeOrTarget)` adds a node to the source tree.", AddNodeSentences::adds);
        says("The conditions are examined in this order, and the first that holds gives the answer:", AddNodeSentences::order);
        says("count == maxNodes: `ERR_FULL`.", AddNodeSentences::full);
        says("kind is not `KIND_DIR`, `KIND_FILE` or `KIND_LINK`: `ERR_KIND`.", AddNodeSentences::kinds);
        says("name is not valid: `ERR_NAME`.", AddNodeSentences::names);
        says("parent != -1 and parent is not the index of an existing DIR node", AddNodeSentences::parents);
        says("(any other negative value,", () -> badParents(MIN, MIN + 1, -64, -8, -3, -2));
        says("any value >= count,", () -> badParents(4, 5, 7, 8, 9, 15, 16, 17, 64, MAX - 1, MAX));
        says("or the index of a FILE or LINK): `ERR_PARENT`.", () -> badParents(1, 2, 3));
        says("the new node's depth would exceed `MAX_DEPTH`: `ERR_DEPTH`.", AddNodeSentences::depth);
        says("a node with the same parent has the same name: `ERR_DUPLICATE`.", AddNodeSentences::duplicates);
        says("For DIR or FILE: modeOrTarget is not in 0..511: `ERR_MODE`.", AddNodeSentences::modes);
        says("For LINK: modeOrTarget is not the index of an existing FILE or LINK node: `ERR_LINK`.", AddNodeSentences::links);
        says("Each refusal changes nothing.", AddNodeSentences::refusals);
        says("On success the new node gets index count, and count grows by 1.", AddNodeSentences::indices);
        says("DIR and FILE nodes take mode = modeOrTarget;", AddNodeSentences::takenModes);
        says("a FILE starts with empty content.", AddNodeSentences::emptyFile);
        says("A LINK's target is modeOrTarget if that node is a FILE;", AddNodeSentences::linkToFile);
        says("otherwise it is that LINK's own target, so a LINK's target is always a FILE.", AddNodeSentences::linkToLink);
        says("The answer is the new index.", AddNodeSentences::answers);
        says("Existing nodes, the extracted tree, the archive and `errorBlock()` do not change.", AddNodeSentences::rest);
    }

    private static void refused(TarArchive x, int parent, int kind, int name, int last, int error) {
        String call = "addNode(" + parent + ", " + kind + ", " + name + ", " + last + ")";
        Kit.refused(x, call, () -> x.addNode(parent, kind, name, last), error);
    }

    /** DIR 0, FILE 1 with content, LINK 2 to it, LINK 3 to that. */
    private static TarArchive four() {
        TarArchive x = new TarArchive(8, 12);
        Kit.dir(x, -1, "d");
        Kit.file(x, -1, "f");
        Kit.link(x, -1, "l", 1);
        Kit.link(x, 0, "m", 2);
        Kit.fill(x, 1, 2);
        return x;
    }

    private static void adds() {
        TarArchive x = new TarArchive(2, 4);
        Kit.due("addNode", x.addNode(-1, FILE, 'f', 0644), 0);
        Kit.due("the source tree", Kit.tree(x, 0), "1: [1 -1 102 420 0 -1 | -2 -2]");
        Kit.due("the extracted tree", Kit.tree(x, 1), "0:");
    }

    /** Each condition together with each later one that can hold with it. */
    private static void order() {
        TarArchive full = new TarArchive(2, 4);
        Kit.dir(full, -1, "a");
        Kit.file(full, -1, "b");
        refused(full, -1, 0, 'c', 0, TarArchive.ERR_FULL);
        refused(full, -1, DIR, 0, 0, TarArchive.ERR_FULL);
        refused(full, 2, DIR, 'c', 0, TarArchive.ERR_FULL);
        refused(full, -1, DIR, 'a', 0, TarArchive.ERR_FULL);
        refused(full, -1, DIR, 'c', 512, TarArchive.ERR_FULL);
        refused(full, -1, LINK, 'c', 0, TarArchive.ERR_FULL);

        TarArchive x = Kit.chain("a/b/c/d/e");
        Kit.dir(x, 4, "f");
        Kit.file(x, 4, "g");
        refused(x, -1, 4, 0, 0, TarArchive.ERR_KIND);
        refused(x, 7, 4, 'z', 0, TarArchive.ERR_KIND);
        refused(x, 5, 4, 'z', 0, TarArchive.ERR_KIND);
        refused(x, -1, 4, 'a', 0, TarArchive.ERR_KIND);
        refused(x, -1, 4, 'z', -1, TarArchive.ERR_KIND);
        for (int kind : KINDS) {
            int last = kind == LINK ? TarArchive.ERR_LINK : TarArchive.ERR_MODE;
            refused(x, 7, kind, 'A', 0, TarArchive.ERR_NAME);
            refused(x, 5, kind, 'A', 0, TarArchive.ERR_NAME);
            refused(x, -1, kind, 'A', -1, TarArchive.ERR_NAME);
            // FILE 6 stands at the greatest depth, but is no DIR in the first place.
            refused(x, 6, kind, 'z', 0, TarArchive.ERR_PARENT);
            refused(x, 7, kind, 'z', -1, TarArchive.ERR_PARENT);
            refused(x, 5, kind, 'z', -1, TarArchive.ERR_DEPTH);
            refused(x, -1, kind, 'a', -1, TarArchive.ERR_DUPLICATE);
            refused(x, 4, kind, 'g', -1, TarArchive.ERR_DUPLICATE);
            refused(x, 4, kind, 'z', -1, last);
        }
    }

    private static void full() {
        for (int maxNodes = 2; maxNodes <= 8; maxNodes++) {
            for (int kind : KINDS) {
                TarArchive x = new TarArchive(maxNodes, 12);
                Kit.file(x, -1, "f");
                for (int i = 1; i < maxNodes; i++) {
                    Kit.due("addNode " + i + " of " + maxNodes, x.addNode(-1, kind, 'g' + i, 0), i);
                }
                refused(x, -1, kind, 'z', 0, TarArchive.ERR_FULL);
                refused(x, -1, kind, 'z', 0, TarArchive.ERR_FULL);
            }
        }
    }

    private static void kinds() {
        TarArchive x = four();
        for (int kind : new int[] {MIN, -4, -3, -2, -1, 0, 4, 5, 6, '0', '1', '5', 256 + 3, MAX}) {
            refused(x, -1, kind, 'a', 1, TarArchive.ERR_KIND);
        }
        int next = 4;
        for (int kind : KINDS) {
            Kit.due("addNode of kind " + kind, x.addNode(-1, kind, 'p' + kind, 1), next);
            Kit.due("its kind", x.nodeInfo(0, next, TarArchive.INFO_KIND), kind);
            next++;
        }
    }

    private static void names() {
        TarArchive x = four();
        int[] bad = {0, 1, 'A', '/', '.', ' ', 0x6100, 0x610061, 0x61000061, 0x2f616161, 0x41616161, MIN, MIN | 'a', -1, MAX};
        for (int kind : KINDS) {
            for (int name : bad) {
                refused(x, -1, kind, name, 1, TarArchive.ERR_NAME);
                refused(x, 0, kind, name, 1, TarArchive.ERR_NAME);
            }
        }
        int next = 4;
        for (String name : new String[] {"_", "z9", "0_a", "____"}) {
            Kit.due("addNode of " + name, Kit.dir(x, -1, name), next++);
        }
    }

    private static void parents() {
        TarArchive none = new TarArchive(8, 12);
        refused(none, 0, FILE, 'a', 0, TarArchive.ERR_PARENT);
        TarArchive x = four();
        refused(x, 4, FILE, 'a', 0, TarArchive.ERR_PARENT);
        Kit.due("addNode at top level", Kit.dir(x, -1, "a"), 4);
        Kit.due("addNode under DIR 0", Kit.dir(x, 0, "a"), 5);
        Kit.due("addNode under DIR 4", Kit.file(x, 4, "a"), 6);
        Kit.due("addNode under DIR 5", Kit.link(x, 5, "a", 1), 7);
        int[] want = {-1, -1, -1, 0, -1, 0, 4, 5};
        for (int i = 0; i < 8; i++) {
            Kit.due("parent of " + i, x.nodeInfo(0, i, TarArchive.INFO_PARENT), want[i]);
        }
    }

    private static void badParents(int... parents) {
        for (int kind : KINDS) {
            TarArchive x = four();
            // An extracted DIR at every index is no parent in the source tree.
            Kit.load(x, dir("a"), dir("b"), dir("c"), dir("e"), dir("g"), dir("h"), dir("i"), dir("j"), END, END);
            Kit.due("extract()", x.extract(), 8);
            for (int parent : parents) {
                refused(x, parent, kind, 'z', 1, TarArchive.ERR_PARENT);
            }
        }
    }

    private static void depth() {
        for (int kind : KINDS) {
            TarArchive x = Kit.chain("a/b/c/d/e/f");
            Kit.file(x, -1, "t");
            refused(x, 5, kind, 'g', 6, TarArchive.ERR_DEPTH);
            Kit.due("addNode of depth 6", x.addNode(4, kind, 'g', 6), 7);
        }
    }

    private static void duplicates() {
        for (int kind : KINDS) {
            TarArchive x = four();
            for (int name : new int[] {'d', 'f', 'l'}) {
                refused(x, -1, kind, name, 1, TarArchive.ERR_DUPLICATE);
            }
            refused(x, 0, kind, 'm', 1, TarArchive.ERR_DUPLICATE);
            Kit.due("a top-level name in a DIR", x.addNode(0, kind, 'f', 1), 4);
            Kit.due("a DIR's name at top level", x.addNode(-1, kind, 'm', 1), 5);
            Kit.due("a longer name", x.addNode(-1, kind, Kit.name("ff"), 1), 6);
            refused(x, 0, kind, 'f', 1, TarArchive.ERR_DUPLICATE);
            refused(x, -1, kind, Kit.name("ff"), 1, TarArchive.ERR_DUPLICATE);
        }
    }

    private static void modes() {
        for (int kind : new int[] {DIR, FILE}) {
            TarArchive x = four();
            for (int mode : new int[] {MIN, -512, -1, 512, 513, 1023, 1024, MAX}) {
                refused(x, -1, kind, 'a', mode, TarArchive.ERR_MODE);
            }
            Kit.due("mode 0", x.addNode(-1, kind, 'a', 0), 4);
            Kit.due("mode 511", x.addNode(-1, kind, 'b', 511), 5);
        }
    }

    private static void links() {
        TarArchive none = new TarArchive(8, 12);
        refused(none, -1, LINK, 'a', 0, TarArchive.ERR_LINK);
        TarArchive x = four();
        for (int target : new int[] {MIN, -2, -1, 0, 4, 5, 7, 8, 9, 511, MAX}) {
            refused(x, -1, LINK, 'a', target, TarArchive.ERR_LINK);
        }
        for (int target = 1; target <= 3; target++) {
            Kit.due("a LINK to " + target, x.addNode(-1, LINK, 'a' + target - 1, target), 3 + target);
        }
        // An extracted FILE at that index is no target.
        Kit.load(none, file("a", 0), END, END);
        none.extract();
        refused(none, -1, LINK, 'a', 0, TarArchive.ERR_LINK);
    }

    private static void refusals() {
        TarArchive x = Kit.busy();
        refused(x, -1, 0, 'z', 0, TarArchive.ERR_KIND);
        refused(x, -1, DIR, 0, 0, TarArchive.ERR_NAME);
        refused(x, 1, DIR, 'z', 0, TarArchive.ERR_PARENT);
        refused(x, 0, DIR, 'f', 0, TarArchive.ERR_DUPLICATE);
        refused(x, 0, FILE, 'z', 512, TarArchive.ERR_MODE);
        refused(x, 0, LINK, 'z', 0, TarArchive.ERR_LINK);
        // The next node shows nothing of them, neither their parent, mode nor target.
        Kit.due("the next node", x.addNode(-1, FILE, 'z', 1), 4);
        String tree = Kit.tree(x, 0);
        Kit.due("the next node", tree.substring(tree.lastIndexOf('[')), "[1 -1 122 1 0 -1 | -2 -2]");
        for (int i = 5; i < 8; i++) {
            Kit.due("another node", Kit.dir(x, i == 5 ? 0 : i - 1, "q"), i);
        }
        refused(x, -1, DIR, 'x', 0, TarArchive.ERR_FULL);
        TarArchive deep = Kit.chain("a/b/c/d/e/f");
        deep.create();
        deep.extract();
        refused(deep, 5, DIR, 'g', 0, TarArchive.ERR_DEPTH);
    }

    private static void indices() {
        TarArchive x = new TarArchive(8, 12);
        for (int i = 0; i < 8; i++) {
            Kit.due("nodeCount(0)", x.nodeCount(0), i);
            Kit.due("nodeInfo of the next", x.nodeInfo(0, i, TarArchive.INFO_NAME), TarArchive.ERR_ARG);
            x.addNode(-1, i % 2 == 0 ? FILE : DIR, 'a' + i, 0);
            Kit.due("name of " + i, x.nodeInfo(0, i, TarArchive.INFO_NAME), 'a' + i);
        }
        Kit.due("nodeCount(0)", x.nodeCount(0), 8);
    }

    private static void takenModes() {
        for (int kind : new int[] {DIR, FILE}) {
            for (int mode = 0; mode <= 511; mode++) {
                TarArchive x = new TarArchive(2, 4);
                x.addNode(-1, kind, 'a', mode);
                Kit.due("INFO_MODE", x.nodeInfo(0, 0, TarArchive.INFO_MODE), mode);
            }
        }
    }

    private static void emptyFile() {
        TarArchive x = four();
        Kit.due("addNode", Kit.file(x, -1, "a"), 4);
        Kit.due("its size", x.nodeInfo(0, 4, TarArchive.INFO_SIZE), 0);
        Kit.due("its first byte", x.nodeByte(0, 4, 0), TarArchive.ERR_ARG);
        Kit.due("its first appendData", x.appendData(4, 7), 1);
    }

    private static void linkToFile() {
        TarArchive x = new TarArchive(8, 12);
        for (int i = 0; i < 3; i++) {
            x.addNode(-1, FILE, 'a' + i, 100 + i);
        }
        for (int i = 0; i < 3; i++) {
            Kit.due("a LINK to " + i, x.addNode(-1, LINK, 'd' + i, i), 3 + i);
            Kit.due("its target", x.nodeInfo(0, 3 + i, TarArchive.INFO_LINK), i);
            Kit.due("its mode", x.nodeInfo(0, 3 + i, TarArchive.INFO_MODE), 100 + i);
        }
    }

    private static void linkToLink() {
        TarArchive x = new TarArchive(8, 12);
        Kit.dir(x, -1, "d");
        Kit.file(x, 0, "f");
        for (int i = 2; i < 8; i++) {
            Kit.due("a LINK to the node before", Kit.link(x, -1, "l" + i, i - 1), i);
            Kit.due("its target", x.nodeInfo(0, i, TarArchive.INFO_LINK), 1);
        }
    }

    private static void answers() {
        TarArchive x = new TarArchive(8, 12);
        Kit.due("addNode of a FILE", x.addNode(-1, FILE, 'a', 511), 0);
        Kit.due("addNode of a LINK", x.addNode(-1, LINK, 'b', 0), 1);
        Kit.due("addNode of a DIR", x.addNode(-1, DIR, 'c', 5), 2);
        refused(x, -1, DIR, 'c', 5, TarArchive.ERR_DUPLICATE);
        for (int i = 3; i < 8; i++) {
            Kit.due("addNode of a LINK", x.addNode(2, LINK, 'a' + i, 0), i);
        }
    }

    private static void rest() {
        for (int kind : KINDS) {
            TarArchive x = Kit.busy();
            String older = Kit.tree(x, 0).substring(2);
            String beside = besideSource(x);
            Kit.due("addNode", x.addNode(0, kind, 'z', 1), 4);
            Kit.due("the older nodes", Kit.tree(x, 0).substring(2, 2 + older.length()), older);
            Kit.due("the rest", besideSource(x), beside);
        }
    }
}
