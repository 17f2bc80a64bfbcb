/** Promise 4. */
public final class CreateTest {
    public static void main(String[] args) {
        empty();
        everyField();
        splits();
        deepestPath();
        linkNames();
        archiveFull();
        refusalOrder();
        replacesTheWhole();
        Kit.end(CreateTest.class);
    }

    private static void dueBlock(String what, TarArchive x, int b, int[] want) {
        int[] got = Kit.blockAt(x, b);
        for (int k = 0; k < 64; k++) {
            Kit.due(what + ", block " + b + ", byte " + k, got[k], want[k]);
        }
    }

    private static void empty() {
        TarArchive x = new TarArchive(8, 12);
        Kit.due("create() of the empty tree", x.create(), 2);
        Kit.due("L", x.archiveLength(), 128);
        dueBlock("empty", x, 0, Kit.zeros());
        dueBlock("empty", x, 1, Kit.zeros());
    }

    private static void everyField() {
        TarArchive x = new TarArchive(8, 12);
        x.addNode(-1, TarArchive.KIND_DIR, Kit.name("d_1"), 0705);
        x.addNode(0, TarArchive.KIND_FILE, Kit.name("f"), 0007);
        x.addNode(0, TarArchive.KIND_FILE, Kit.name("e"), 511);
        x.addNode(-1, TarArchive.KIND_LINK, Kit.name("link"), 1);
        for (int k = 0; k < 32; k++) {
            x.appendData(3, 255 - k);
        }
        String before = Kit.tree(x, 0) + Kit.tree(x, 1) + x.errorBlock();
        Kit.due("create()", x.create(), 7);
        Kit.due("L", x.archiveLength(), 448);
        Kit.due("the rest", Kit.tree(x, 0) + Kit.tree(x, 1) + x.errorBlock(), before);

        int[] dir = Kit.put(Kit.header("d_1", '5', 0, ""), 12, "705");
        int[] file = Kit.put(Kit.header("d_1/f", '0', 32, ""), 12, "007");
        int[] emptyFile = Kit.put(Kit.header("d_1/e", '0', 0, ""), 12, "777");
        int[] link = Kit.put(Kit.header("link", '1', 0, "d_1/f"), 12, "000");
        int[] data = Kit.zeros();
        for (int k = 0; k < 32; k++) {
            data[k] = 255 - k;
        }
        dueBlock("the DIR", x, 0, Kit.seal(dir));
        dueBlock("the FILE", x, 1, Kit.seal(file));
        dueBlock("the data", x, 2, data);
        dueBlock("the empty FILE", x, 3, Kit.seal(emptyFile));
        dueBlock("the LINK", x, 4, Kit.seal(link));
        dueBlock("the end", x, 5, Kit.zeros());
        dueBlock("the end", x, 6, Kit.zeros());
    }

    /** A chain of DIRs by these names; each node's header has the prefix and name given for it. */
    private static void chain(String path, String prefix, String name) {
        TarArchive x = new TarArchive(8, 12);
        String[] parts = path.split("/");
        for (int i = 0; i < parts.length; i++) {
            Kit.due("addNode " + parts[i], Kit.dir(x, i - 1, parts[i]), i);
        }
        if (name == null) {
            Kit.refused(x, "create() with " + path, x::create, TarArchive.ERR_NAME_TOO_LONG);
            return;
        }
        Kit.due("create() with " + path, x.create(), parts.length + 2);
        int[] want = Kit.put(Kit.header(name, '5', 0, ""), 47, prefix);
        Kit.put(want, 12, "755");
        dueBlock(path, x, parts.length - 1, Kit.seal(want));
    }

    private static void splits() {
        chain("abcd/efgh/ij", "", "abcd/efgh/ij");
        chain("abcd/efgh/ijk", "abcd", "efgh/ijk");
        chain("abcd/efgh/ijkl", "abcd", "efgh/ijkl");
        chain("a/bcd/efgh/ijk", "a", "bcd/efgh/ijk");
        chain("a/bcde/efgh/ijk", "a/bcde", "efgh/ijk");
        chain("abcd/efg/hi/jk/lm", "abcd", "efg/hi/jk/lm");
        chain("abcd/efgh/ijkl/mnop", "abcd/efgh", "ijkl/mnop");
        chain("abcd/efg/hi/jklm/nopq", "abcd/efg", "hi/jklm/nopq");
        // A prefix of 10 bytes is the longest.
        chain("abcd/ef/gh/ijkl/mnop", "abcd/ef", "gh/ijkl/mnop");
        chain("abcd/ef/ghi/jkl/mnop", "abcd/ef", "ghi/jkl/mnop");
        chain("abcd/ef/gh/i/jkl/mnop", "abcd/ef/gh", "i/jkl/mnop");
        chain("abcd/e/f/ghij/kl/mnop", "abcd/e/f", "ghij/kl/mnop");
        chain("abcd/efgh/i/jklm/nopq", "abcd/efgh", "i/jklm/nopq");
        chain("ab/cdef/gh/ijkl/m/nopq", "ab/cdef/gh", "ijkl/m/nopq");
        chain("abc/def/gh/ijkl/mn/opqr", "abc/def/gh", "ijkl/mn/opqr");
        // Here the first slash that leaves 12 bytes or fewer stands at 11 or later.
        chain("abcd/efgh/ijk/lmno/pqrs", null, null);
        chain("abcd/efgh/ij/klmn/op/qrst", null, null);
    }

    private static void deepestPath() {
        chain("abcd/efgh/ijkl/mnop/qrst", null, null);
        chain("abcd/efgh/ijkl/mnop/qrst/uvwx", null, null);
        chain("a/b/c/d/e/f", "", "a/b/c/d/e/f");
    }

    private static void linkNames() {
        TarArchive x = new TarArchive(8, 12);
        Kit.dir(x, -1, "abcd");
        Kit.dir(x, 0, "efgh");
        Kit.file(x, 1, "ij");
        Kit.link(x, -1, "l", 2);
        Kit.due("create() with a linkname of 12", x.create(), 6);
        int[] want = Kit.put(Kit.header("l", '1', 0, "abcd/efgh/ij"), 12, "000");
        dueBlock("linkname of 12", x, 3, Kit.seal(want));

        // The path of 13 fits as prefix and name, but not as linkname.
        Kit.file(x, 1, "ijk");
        Kit.due("create() before the LINK", x.create(), 7);
        Kit.link(x, -1, "m", 4);
        Kit.refused(x, "create() with a linkname of 13", x::create, TarArchive.ERR_NAME_TOO_LONG);
    }

    private static void archiveFull() {
        for (int maxBlocks = 4; maxBlocks <= 12; maxBlocks++) {
            TarArchive x = new TarArchive(8, maxBlocks);
            int blocks = 2;
            for (int i = 0; i < 8; i++) {
                Kit.file(x, -1, "" + (char) ('a' + i));
                blocks = dueCreate(x, blocks + 1, maxBlocks);
                x.appendData(i, i);
                blocks = dueCreate(x, blocks + 1, maxBlocks);
            }
        }
        // Neither a LINK nor a DIR has a data block.
        TarArchive x = new TarArchive(8, 6);
        Kit.file(x, -1, "f");
        Kit.fill(x, 0, 5);
        Kit.link(x, -1, "l", 0);
        Kit.due("create() with FILE and LINK", x.create(), 5);
        Kit.dir(x, -1, "d");
        Kit.due("create() with FILE, LINK and DIR", x.create(), 6);
        Kit.link(x, -1, "m", 0);
        Kit.refused(x, "create() with one block too many", x::create, TarArchive.ERR_ARCHIVE_FULL);
    }

    private static int dueCreate(TarArchive x, int blocks, int maxBlocks) {
        if (blocks > maxBlocks) {
            Kit.refused(x, "create() of " + blocks + " in " + maxBlocks, x::create, TarArchive.ERR_ARCHIVE_FULL);
        } else {
            Kit.due("create() of " + blocks + " in " + maxBlocks, x.create(), blocks);
            Kit.due("L", x.archiveLength(), 64 * blocks);
        }
        return blocks;
    }

    private static void refusalOrder() {
        TarArchive x = new TarArchive(8, 4);
        for (int i = 0; i < 6; i++) {
            Kit.dir(x, i - 1, "abcd");
        }
        Kit.refused(x, "create() too long and too many", x::create, TarArchive.ERR_NAME_TOO_LONG);
    }

    private static void replacesTheWhole() {
        TarArchive x = new TarArchive(8, 12);
        for (int pos = 0; pos < 768; pos++) {
            x.appendArchive(255);
        }
        Kit.file(x, -1, "f");
        x.appendData(0, 7);
        Kit.due("create() over an old archive", x.create(), 4);
        TarArchive fresh = new TarArchive(8, 12);
        Kit.file(fresh, -1, "f");
        fresh.appendData(0, 7);
        fresh.create();
        Kit.due("the archive", Kit.archive(x), Kit.archive(fresh));

        x.truncateArchive(0);
        x.extract();
        Kit.due("errorBlock() before", x.errorBlock(), 0);
        Kit.due("create() again", x.create(), 4);
        Kit.due("errorBlock() after", x.errorBlock(), 0);
        Kit.due("the archive again", Kit.archive(x), Kit.archive(fresh));
    }
}
