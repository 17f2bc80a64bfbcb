/** Promise 2. */
public final class AddNodeTest {
    private static final int FILE = TarArchive.KIND_FILE;
    private static final int LINK = TarArchive.KIND_LINK;
    private static final int DIR = TarArchive.KIND_DIR;

    public static void main(String[] args) {
        kinds();
        names();
        parents();
        depth();
        duplicates();
        modes();
        links();
        order();
        restUntouched();
        Kit.end(AddNodeTest.class);
    }

    private static void add(TarArchive x, int parent, int kind, int name, int modeOrTarget, int want) {
        String call = "addNode(" + parent + ", " + kind + ", " + name + ", " + modeOrTarget + ")";
        if (want < 0) {
            Kit.refused(x, call, () -> x.addNode(parent, kind, name, modeOrTarget), want);
        } else {
            Kit.due(call, x.addNode(parent, kind, name, modeOrTarget), want);
        }
    }

    private static void kinds() {
        TarArchive x = new TarArchive(8, 12);
        for (int kind : new int[] {Integer.MIN_VALUE, -1, 0, 4, 5, '0', Integer.MAX_VALUE}) {
            add(x, -1, kind, 'a', 0, TarArchive.ERR_KIND);
        }
        add(x, -1, DIR, 'a', 1, 0);
        add(x, -1, FILE, 'b', 2, 1);
        add(x, -1, LINK, 'c', 1, 2);
        Kit.due("the tree", Kit.tree(x, 0), "3: [3 -1 97 1 0 -1 | -2 -2] [1 -1 98 2 0 -1 | -2 -2] [2 -1 99 2 0 1 | -2 -2]");
    }

    private static void names() {
        // Every byte at every place of a name, on a new object each.
        for (int place = 0; place < 4; place++) {
            for (int c = 0; c < 256; c++) {
                int name = (0x61616161 & ~(255 << (8 * place))) | c << (8 * place);
                boolean letter = c >= 'a' && c <= 'z' || c >= '0' && c <= '9' || c == '_';
                boolean shorter = c == 0 && place == 3;
                add(new TarArchive(8, 12), -1, FILE, name, 0, letter || shorter ? 0 : TarArchive.ERR_NAME);
            }
        }
        TarArchive x = new TarArchive(8, 12);
        int[] bad = {0, -1, Integer.MIN_VALUE, Integer.MAX_VALUE, 0x00610061, 0x61000061, 0x61610000, 0x61000000, 0x00006100};
        for (int name : bad) {
            add(x, -1, DIR, name, 0, TarArchive.ERR_NAME);
        }
        String[] good = {"a", "ab", "abc", "abcd", "_", "0", "z9_a"};
        for (int i = 0; i < good.length; i++) {
            add(x, -1, DIR, Kit.name(good[i]), 0, i);
            Kit.due("INFO_NAME of " + good[i], x.nodeInfo(0, i, TarArchive.INFO_NAME), Kit.name(good[i]));
        }
    }

    private static void parents() {
        TarArchive x = new TarArchive(8, 12);
        add(x, 0, FILE, 'a', 0, TarArchive.ERR_PARENT);
        add(x, -1, DIR, 'd', 0, 0);
        add(x, -1, FILE, 'f', 0, 1);
        add(x, -1, LINK, 'l', 1, 2);
        for (int parent : new int[] {Integer.MIN_VALUE, -3, -2, 1, 2, 3, 7, 8, 9, Integer.MAX_VALUE}) {
            add(x, parent, FILE, 'a', 0, TarArchive.ERR_PARENT);
        }
        add(x, 0, DIR, 'e', 0, 3);
        add(x, 3, FILE, 'a', 0, 4);
        add(x, 3, LINK, 'b', 4, 5);
        Kit.due("parent of 3", x.nodeInfo(0, 3, TarArchive.INFO_PARENT), 0);
        Kit.due("parent of 4", x.nodeInfo(0, 4, TarArchive.INFO_PARENT), 3);
        Kit.due("parent of 5", x.nodeInfo(0, 5, TarArchive.INFO_PARENT), 3);
    }

    private static void depth() {
        for (int kind : new int[] {DIR, FILE, LINK}) {
            TarArchive x = new TarArchive(8, 12);
            add(x, -1, FILE, 'f', 0, 0);
            add(x, -1, DIR, 'a', 0, 1);
            for (int i = 2; i <= 5; i++) {
                add(x, i - 1, DIR, 'a', 0, i);
            }
            add(x, 5, DIR, 'a', 0, 6);
            add(x, 6, kind, 'a', 0, TarArchive.ERR_DEPTH);
            add(x, 5, kind, 'b', 0, 7);
        }
    }

    private static void duplicates() {
        TarArchive x = new TarArchive(8, 12);
        add(x, -1, DIR, 'a', 0, 0);
        add(x, 0, FILE, 'a', 0, 1);
        add(x, -1, DIR, 'b', 0, 2);
        add(x, 2, FILE, 'a', 0, 3);
        for (int kind : new int[] {DIR, FILE, LINK}) {
            add(x, -1, kind, 'a', 1, TarArchive.ERR_DUPLICATE);
            add(x, 0, kind, 'a', 1, TarArchive.ERR_DUPLICATE);
            add(x, 2, kind, 'a', 1, TarArchive.ERR_DUPLICATE);
        }
        add(x, 0, FILE, Kit.name("aa"), 0, 4);
    }

    private static void modes() {
        for (int kind : new int[] {DIR, FILE}) {
            TarArchive x = new TarArchive(8, 12);
            for (int mode : new int[] {Integer.MIN_VALUE, -1, 512, 513, Integer.MAX_VALUE}) {
                add(x, -1, kind, 'a', mode, TarArchive.ERR_MODE);
            }
            add(x, -1, kind, 'a', 0, 0);
            add(x, -1, kind, 'b', 511, 1);
            add(x, -1, kind, 'c', 0644, 2);
            Kit.due("mode of 0", x.nodeInfo(0, 0, TarArchive.INFO_MODE), 0);
            Kit.due("mode of 1", x.nodeInfo(0, 1, TarArchive.INFO_MODE), 511);
            Kit.due("mode of 2", x.nodeInfo(0, 2, TarArchive.INFO_MODE), 0644);
            Kit.due("size of 2", x.nodeInfo(0, 2, TarArchive.INFO_SIZE), 0);
        }
    }

    private static void links() {
        TarArchive x = new TarArchive(8, 12);
        add(x, -1, LINK, 'a', 0, TarArchive.ERR_LINK);
        add(x, -1, DIR, 'd', 0, 0);
        add(x, 0, FILE, 'f', 0600, 1);
        for (int target : new int[] {Integer.MIN_VALUE, -2, -1, 0, 2, 3, 8, 0600, Integer.MAX_VALUE}) {
            add(x, -1, LINK, 'a', target, TarArchive.ERR_LINK);
        }
        add(x, -1, LINK, 'a', 1, 2);
        add(x, -1, LINK, 'b', 2, 3);
        add(x, 0, LINK, 'c', 3, 4);
        for (int i = 2; i <= 4; i++) {
            Kit.due("target of " + i, x.nodeInfo(0, i, TarArchive.INFO_LINK), 1);
            Kit.due("mode of " + i, x.nodeInfo(0, i, TarArchive.INFO_MODE), 0600);
        }
    }

    /** Every condition holds at once; they are mended one by one. */
    private static void order() {
        TarArchive full = new TarArchive(2, 4);
        add(full, -1, DIR, 'a', 0, 0);
        add(full, -1, DIR, 'b', 0, 1);
        add(full, 7, 9, 0, -1, TarArchive.ERR_FULL);
        add(full, -1, FILE, 'c', 0, TarArchive.ERR_FULL);

        TarArchive x = new TarArchive(8, 12);
        add(x, -1, DIR, 'a', 0, 0);
        for (int i = 1; i <= 5; i++) {
            add(x, i - 1, DIR, 'a', 0, i);
        }
        add(x, 7, 9, 0, -1, TarArchive.ERR_KIND);
        for (int kind : new int[] {DIR, FILE, LINK}) {
            add(x, 7, kind, 0, -1, TarArchive.ERR_NAME);
            add(x, 7, kind, 'a', -1, TarArchive.ERR_PARENT);
            add(x, 5, kind, 'a', -1, TarArchive.ERR_DEPTH);
            add(x, 4, kind, 'a', -1, TarArchive.ERR_DUPLICATE);
            add(x, 4, kind, 'b', -1, kind == LINK ? TarArchive.ERR_LINK : TarArchive.ERR_MODE);
        }
        add(x, 4, DIR, 'b', 0, 6);
    }

    private static void restUntouched() {
        TarArchive x = new TarArchive(8, 12);
        add(x, -1, FILE, 'f', 0644, 0);
        Kit.fill(x, 0, 3);
        x.create();
        x.extract();
        x.truncateArchive(100);
        x.extract();
        String first = Kit.tree(x, 0).substring(3);
        String rest = Kit.tree(x, 1) + Kit.archive(x) + x.errorBlock();
        add(x, -1, DIR, 'd', 0, 1);
        add(x, 1, LINK, 'l', 0, 2);
        add(x, 1, FILE, 'f', 7, 3);
        Kit.due("the older node", Kit.tree(x, 0).substring(3, 3 + first.length()), first);
        Kit.due("the rest", Kit.tree(x, 1) + Kit.archive(x) + x.errorBlock(), rest);
    }
}
