/** The section "Not promised": what it leaves free needs no test, but the order of conditions does. */
final class NotPromisedSentences extends Sentences {
    private static final int FILE = TarArchive.KIND_FILE;
    private static final int LINK = TarArchive.KIND_LINK;
    private static final int DIR = TarArchive.KIND_DIR;
    private static final int[] NAMES = {0, 'A', 'b', 'c', 'f', 'g', 'h', 0x610061, -1};
    private static final int[] LASTS = {MIN, -1, 0, 1, 2, 5, 6, 7, 8, 511, 512, MAX};

    private NotPromisedSentences() {
    }

    static void run() {
        section("Not promised");
        onlyLeads("The internal representation of trees, names and the archive is free, as long as every answer above is as "
            + "stated.");
        onlyLeads("The behavior of `equals`, `hashCode` and `toString` is free.");
        onlyLeads("Use of the object from several threads at once is not covered.");
        says("When several conditions of one call hold at once, only the first in the stated order determines the answer;",
            NotPromisedSentences::firstAnswers);
        onlyLeads("nothing further is promised about the others.");
    }

    private static void firstAnswers() {
        for (int maxNodes = 2; maxNodes <= 8; maxNodes++) {
            for (int count = 0; count <= maxNodes; count++) {
                addNode(maxNodes, "FLDDDDDD".substring(0, count));
                addNode(maxNodes, "FDDDDDDL".substring(0, count));
            }
            appendData(maxNodes);
        }
        create();
        ExtractSentences.order();
        appendArchive();
    }

    /** A node for each letter: FILE f at top level, LINK g to it, and DIRs each in the one before. */
    private static TarArchive nodes(int maxNodes, String letters) {
        TarArchive x = new TarArchive(maxNodes, 12);
        int dir = -1;
        for (int i = 0; i < letters.length(); i++) {
            int next = switch (letters.charAt(i)) {
                case 'F' -> Kit.file(x, -1, "f");
                case 'L' -> Kit.link(x, -1, "g", 0);
                default -> Kit.dir(x, dir, "" + (char) ('a' + i));
            };
            dir = letters.charAt(i) == 'D' ? next : dir;
            Kit.due("node " + i + " of " + letters, next, i);
        }
        return x;
    }

    private static void addNode(int maxNodes, String letters) {
        TarArchive x = nodes(maxNodes, letters);
        boolean full = letters.length() == maxNodes;
        for (int kind = 0; kind <= 4; kind++) {
            for (int parent = -2; parent <= 8; parent++) {
                for (int name : NAMES) {
                    for (int last : LASTS) {
                        int want = full ? TarArchive.ERR_FULL : dueNode(x, parent, kind, name, last);
                        // What is taken would change the tree for the next calls.
                        TarArchive asked = want < 0 ? x : nodes(maxNodes, letters);
                        Kit.due("addNode(" + parent + ", " + kind + ", " + name + ", " + last + ") to " + letters,
                            asked.addNode(parent, kind, name, last), want);
                    }
                }
            }
        }
    }

    /** The first condition from the second on that holds, as the getters show the tree, or else the count. */
    private static int dueNode(TarArchive x, int parent, int kind, int name, int last) {
        int count = x.nodeCount(0);
        if (kind != DIR && kind != FILE && kind != LINK) {
            return TarArchive.ERR_KIND;
        }
        if (name < 'a' || name > 'z') {
            return TarArchive.ERR_NAME;
        }
        if (parent != -1 && x.nodeInfo(0, parent, TarArchive.INFO_KIND) != DIR) {
            return TarArchive.ERR_PARENT;
        }
        int depth = 1;
        for (int at = parent; at != -1; at = x.nodeInfo(0, at, TarArchive.INFO_PARENT)) {
            depth++;
        }
        if (depth > 6) {
            return TarArchive.ERR_DEPTH;
        }
        for (int i = 0; i < count; i++) {
            if (x.nodeInfo(0, i, TarArchive.INFO_PARENT) == parent && x.nodeInfo(0, i, TarArchive.INFO_NAME) == name) {
                return TarArchive.ERR_DUPLICATE;
            }
        }
        if (kind == LINK) {
            int named = x.nodeInfo(0, last, TarArchive.INFO_KIND);
            return named == FILE || named == LINK ? count : TarArchive.ERR_LINK;
        }
        return last < 0 || last > 511 ? TarArchive.ERR_MODE : count;
    }

    private static void appendData(int maxNodes) {
        for (int size : new int[] {0, 31, 32}) {
            TarArchive x = nodes(maxNodes, "FLDDDDDD".substring(0, maxNodes));
            Kit.fill(x, 0, size);
            for (int node = -2; node <= 9; node++) {
                int error = node >= 2 && node < maxNodes ? TarArchive.ERR_KIND : TarArchive.ERR_ARG;
                for (int value : new int[] {MIN, -1, 256, MAX}) {
                    Kit.due("appendData(" + node + ", " + value + ")", x.appendData(node, value), error);
                }
            }
            for (int node = 0; node <= 1; node++) {
                int more = size + 1 + node;
                Kit.due("appendData(" + node + ", 255)", x.appendData(node, 255), more > 32 ? TarArchive.ERR_FULL : more);
            }
        }
    }

    /** Paths too long and blocks too many, each alone and both at once. */
    private static void create() {
        for (int maxBlocks = 4; maxBlocks <= 12; maxBlocks++) {
            for (int depth = 1; depth <= 6; depth++) {
                TarArchive x = new TarArchive(8, maxBlocks);
                for (int i = 0; i < depth; i++) {
                    Kit.dir(x, i - 1, "abcd");
                }
                int want = depth + 2 > maxBlocks ? TarArchive.ERR_ARCHIVE_FULL : depth + 2;
                Kit.due("create() of depth " + depth + " in " + maxBlocks, x.create(),
                    depth > 4 ? TarArchive.ERR_NAME_TOO_LONG : want);
            }
        }
    }

    private static void appendArchive() {
        TarArchive x = new TarArchive(2, 4);
        for (int length = 0; length <= 256; length++) {
            for (int value : new int[] {MIN, -1, 256, MAX}) {
                Kit.due("appendArchive(" + value + ") to " + length, x.appendArchive(value), TarArchive.ERR_ARG);
            }
            Kit.due("appendArchive(0) to " + length, x.appendArchive(0), length == 256 ? TarArchive.ERR_FULL : length + 1);
        }
    }
}
