/** Promise 4. */
final class CreateSentences extends Sentences {
    // Where the headers of five() stand.
    private static final int[] FIVE_AT = {0, 64, 192, 256, 320};

    private CreateSentences() {
    }

    static void run() {
        section("Promise 4: create");
        says("`create()` writes the source tree as an archive.", CreateSentences::writes);
        says("The conditions are examined in this order:", CreateSentences::order);
        says("For each node i, in index order: let P be its path and p its length.", CreateSentences::eachNode);
        says("If p <= `NAME_LEN`, then name = P and prefix is empty.", CreateSentences::wholeNames);
        says("Otherwise let s be the least position with P[s] == '/'", CreateSentences::leastSlash);
        says("and p-s-1 <= `NAME_LEN`.", CreateSentences::longestName);
        // This never comes to pass: behind the last slash stand 4 bytes at most.
        onlyLeads("If there is no such s,");
        says("or s > `PREFIX_LEN`, the answer is `ERR_NAME_TOO_LONG`.", CreateSentences::longestPrefix);
        says("Otherwise prefix = P[0..s-1] and name = P[s+1..p-1].", CreateSentences::splitText);
        says("Then, if i is a LINK and its target's path is longer than `LINK_LEN`, the answer is `ERR_NAME_TOO_LONG`.",
            CreateSentences::longestLink);
        says("Let B = count + (number of FILE nodes with size > 0) + 2.", CreateSentences::blockCount);
        says("If B > maxBlocks: `ERR_ARCHIVE_FULL`.", CreateSentences::full);
        says("A refusal changes nothing; in particular the archive and L stay as they were.", CreateSentences::refusals);
        says("On success the whole archive is replaced by the following blocks, in this order:", CreateSentences::replaces);
        says("for each node in index order, its header;", CreateSentences::headers);
        says("after the header of a FILE with size > 0, one data block:", CreateSentences::dataBlocks);
        says("its content bytes, then 0s up to 64 bytes;", CreateSentences::data);
        says("then two blocks of 0s.", CreateSentences::endBlocks);
        says("L becomes 64*B.", CreateSentences::length);
        onlyLeads("Header fields of a node:");
        says("name and prefix as split in step 1 (each text followed by 0s to the end of its field);", CreateSentences::texts);
        says("mode = the node's mode (LINK: 0);", CreateSentences::modes);
        says("size = the content size (DIR and LINK: 0);", CreateSentences::sizes);
        says("typeflag by kind ('0' FILE, '1' LINK, '5' DIR);", CreateSentences::types);
        says("linkname = the target's path (LINK) or all 0s;", CreateSentences::linknames);
        says("bytes 39..46 are 'u','s','t','a','r',0,'0','0' and bytes 57..63 are 0;", CreateSentences::constantBytes);
        says("chksum = the CHECKSUM of the finished header.", CreateSentences::checksums);
        says("Octal digits are written as the value in base 8, zero-padded to the field's digit count, each digit field followed "
            + "by its 0 byte.", CreateSentences::octal);
        says("Neither tree changes, and `errorBlock()` does not change.", CreateSentences::rest);
        says("The answer is B.", CreateSentences::answers);
        says("An empty source tree gives B = 2: an archive of two zero blocks.", CreateSentences::empty);
    }

    /** DIR 0, FILE 1 in it with content, empty FILE 2, LINK 3 to 1, LINK 4 to 2. */
    private static TarArchive five() {
        TarArchive x = new TarArchive(8, 12);
        x.addNode(-1, TarArchive.KIND_DIR, 'd', 0751);
        x.addNode(0, TarArchive.KIND_FILE, 'f', 0604);
        x.addNode(-1, TarArchive.KIND_FILE, 'e', 0);
        x.addNode(-1, TarArchive.KIND_LINK, 'l', 1);
        x.addNode(0, TarArchive.KIND_LINK, 'm', 2);
        Kit.fill(x, 1, 9);
        return x;
    }

    /** The tree of a chain that ends in this path is created, its last header with this prefix and name. */
    private static void split(String prefix, String name) {
        String path = prefix.isEmpty() ? name : prefix + "/" + name;
        TarArchive x = Kit.chain(path);
        int last = x.nodeCount(0) - 1;
        Kit.due("create() with " + path, x.create(), last + 3);
        dueBytes("name of " + path, x, 64 * last, field(name, 12));
        dueBytes("prefix of " + path, x, 64 * last + 47, field(prefix, 10));
    }

    private static void tooLong(String path) {
        TarArchive x = Kit.chain(path);
        Kit.refused(x, "create() with " + path, x::create, TarArchive.ERR_NAME_TOO_LONG);
    }

    private static void writes() {
        TarArchive x = five();
        Kit.due("create()", x.create(), 8);
        Kit.due("extract()", x.extract(), 5);
        Kit.due("what was written", Kit.tree(x, 1), Kit.tree(x, 0));
    }

    private static void order() {
        TarArchive x = new TarArchive(8, 4);
        for (int i = 0; i < 6; i++) {
            Kit.dir(x, i - 1, "abcd");
        }
        Kit.refused(x, "create() too long and too many", x::create, TarArchive.ERR_NAME_TOO_LONG);
        // The LINK's target too is looked at before the blocks are counted.
        TarArchive y = new TarArchive(8, 4);
        Kit.dir(y, -1, "abcd");
        Kit.dir(y, 0, "efgh");
        Kit.file(y, 1, "ijk");
        Kit.link(y, -1, "l", 2);
        Kit.refused(y, "create() with a long linkname and too many", y::create, TarArchive.ERR_NAME_TOO_LONG);
    }

    /** A path too long is found wherever its node stands, the last place and places before short ones. */
    private static void eachNode() {
        TarArchive x = Kit.chain("abcd/efgh/ijkl/mnop");
        Kit.due("create() of the chain", x.create(), 6);
        Kit.dir(x, 3, "qrst");
        Kit.refused(x, "create() with the last too long", x::create, TarArchive.ERR_NAME_TOO_LONG);
        Kit.dir(x, -1, "z");
        Kit.refused(x, "create() with one before the last too long", x::create, TarArchive.ERR_NAME_TOO_LONG);
        for (int i = 0; i < 4; i++) {
            Kit.due("kept archive, header " + i, x.archiveByte(64 * i + 26), '5');
        }
    }

    private static void wholeNames() {
        for (int length = 1; length <= 12; length++) {
            split("", pathOf(length));
        }
        split("", "a/b/c/d/e/f");
        split("", "ab/c/d/e/f/g");
        split("abcd", "efgh/ijk");
    }

    private static void leastSlash() {
        split("abcd", "efgh/ijkl");
        split("a", "b/c/d/efg/hi");
        split("a", "b/c/d/e/fghi");
        split("abcd/efgh", "ijkl/mnop");
        split("ab/cd", "ef/gh/ij/kl");
        split("a/b", "cdef/ghi/jkl");
    }

    private static void longestName() {
        // 12 bytes after the slash are taken, 13 are not: then the next slash splits.
        split("abcd", "efg/hij/klmn");
        split("abcd/ef", "ghi/jkl/mnop");
        split("ab/cde", "efg/hij/klmn");
        split("a/bcde", "efgh/ijk");
        split("abcd/efgh", "hij/klmn/opq");
        split("abcd/efg", "hij/klmn/op");
        split("a/b", "ijkl/mno/pqr");
        split("abcd/efgh", "ijkl/mno");
        split("ab/cdef", "ghij/klmn");
    }

    private static void longestPrefix() {
        split("a/bcde/fgh", "uvw/xyz/0123");
        split("abcd/ef/gh", "ijk/lmn/opqr");
        split("abc/def/gh", "ijkl/mnop/qr");
        split("ab/cde/fgh", "ijkl/mnop");
        tooLong("ab/cdef/ghi/uvw/xyz/0123");
        tooLong("abc/def/ghi/jklm/nopq");
        tooLong("abcd/efgh/i/jklm/nop/qrs");
        tooLong("abcd/efgh/ijkl/mnop/qrst");
        tooLong("abcd/efgh/ijkl/mnop/qrst/uvwx");
    }

    /** Every chain of six names, of every mix of lengths: the header holds the path, or the split is refused. */
    private static void splitText() {
        for (int mix = 0; mix < 4096; mix++) {
            StringBuilder text = new StringBuilder();
            for (int i = 0; i < 6; i++) {
                text.append(i == 0 ? "" : "/").append("klmn", 0, 1 + (mix >> (2 * i) & 3));
            }
            String path = text.toString();
            int s = path.indexOf('/', Math.max(0, path.length() - 13));
            if (path.length() <= 12) {
                split("", path);
            } else if (s > 10) {
                tooLong(path);
            } else if (fits(path)) {
                split(path.substring(0, s), path.substring(s + 1));
            }
        }
    }

    /** A chain's inner nodes may be too long where its last one is not. */
    private static boolean fits(String path) {
        for (int end = path.indexOf('/'); end >= 0; end = path.indexOf('/', end + 1)) {
            if (end > 12 && path.indexOf('/', end - 13) > 10) {
                return false;
            }
        }
        return true;
    }

    private static void longestLink() {
        TarArchive x = Kit.chain("abcd/efgh");
        Kit.file(x, 1, "ij");
        Kit.file(x, 1, "ijk");
        Kit.link(x, -1, "l", 2);
        Kit.due("create() with a target of 12", x.create(), 7);
        dueBytes("its linkname", x, 64 * 4 + 27, "abcd/efgh/ij");
        Kit.link(x, -1, "m", 3);
        Kit.refused(x, "create() with a target of 13", x::create, TarArchive.ERR_NAME_TOO_LONG);
        // A LINK to that LINK has the FILE's path for linkname, however short the LINK's own is.
        TarArchive y = Kit.chain("abcd/efgh");
        Kit.file(y, 1, "ijkl");
        Kit.due("create() with a FILE of 14", y.create(), 5);
        Kit.link(y, -1, "l", 2);
        Kit.link(y, -1, "m", 3);
        Kit.refused(y, "create() with a target of 14", y::create, TarArchive.ERR_NAME_TOO_LONG);
        // The LINK's own path may be longer than the linkname.
        TarArchive z = Kit.chain("abcd/efgh");
        Kit.file(z, -1, "f");
        Kit.link(z, 1, "ijkl", 2);
        Kit.due("create() with a LINK of 14", z.create(), 6);
    }

    private static void blockCount() {
        TarArchive x = new TarArchive(8, 12);
        Kit.due("no node", x.create(), 2);
        Kit.file(x, -1, "f");
        Kit.due("an empty FILE", x.create(), 3);
        x.appendData(0, 0);
        Kit.due("a FILE of one byte", x.create(), 4);
        Kit.fill(x, 0, 31);
        Kit.due("a FILE of 32 bytes", x.create(), 4);
        Kit.dir(x, -1, "d");
        Kit.due("and a DIR", x.create(), 5);
        Kit.link(x, -1, "l", 0);
        Kit.due("and a LINK to the FILE", x.create(), 6);
        Kit.file(x, 1, "g");
        Kit.fill(x, 3, 1);
        Kit.due("and another FILE of one byte", x.create(), 8);
    }

    private static void full() {
        for (int maxBlocks = 4; maxBlocks <= 12; maxBlocks++) {
            TarArchive x = new TarArchive(8, maxBlocks);
            int needed = 2;
            for (int i = 0; i < 8; i++) {
                Kit.file(x, -1, "f" + i);
                Kit.fill(x, i, i % 2);
                needed += 1 + i % 2;
                if (needed > maxBlocks) {
                    Kit.refused(x, "create() of " + needed + " in " + maxBlocks, x::create, TarArchive.ERR_ARCHIVE_FULL);
                } else {
                    Kit.due("create() of " + needed + " in " + maxBlocks, x.create(), needed);
                }
            }
        }
        TarArchive most = new TarArchive(8, 12);
        for (int i = 0; i < 8; i++) {
            Kit.file(most, -1, "f" + i);
            Kit.fill(most, i, 32);
        }
        Kit.refused(most, "create() of 18 blocks", most::create, TarArchive.ERR_ARCHIVE_FULL);
    }

    private static void refusals() {
        TarArchive x = Kit.busy();
        for (int i = 4; i < 8; i++) {
            Kit.due("addNode", Kit.dir(x, i == 4 ? 0 : i - 1, "abcd"), i);
        }
        Kit.due("archiveLength() before", x.archiveLength(), 301);
        Kit.refused(x, "create() with a long path", x::create, TarArchive.ERR_NAME_TOO_LONG);
        Kit.due("archiveLength() after", x.archiveLength(), 301);
        TarArchive y = new TarArchive(8, 4);
        Kit.dir(y, -1, "a");
        y.create();
        y.truncateArchive(100);
        y.extract();
        Kit.dir(y, -1, "b");
        Kit.dir(y, -1, "c");
        Kit.refused(y, "create() of a block too many", y::create, TarArchive.ERR_ARCHIVE_FULL);
        Kit.due("archiveLength() after", y.archiveLength(), 100);
        Kit.due("appendArchive() after", y.appendArchive(9), 101);
    }

    private static void replaces() {
        TarArchive fresh = five();
        fresh.create();
        for (int old = 0; old <= 768; old += 96) {
            TarArchive x = five();
            for (int pos = 0; pos < old; pos++) {
                x.appendArchive(255);
            }
            Kit.due("create() over " + old + " bytes", x.create(), 8);
            Kit.due("the archive", Kit.archive(x), Kit.archive(fresh));
        }
        // Bytes that were cut off do not come back either.
        TarArchive x = new TarArchive(2, 4);
        for (int pos = 0; pos < 256; pos++) {
            x.appendArchive(255);
        }
        x.truncateArchive(10);
        Kit.due("create()", x.create(), 2);
        dueBytes("the archive", x, 0, field("", 128));
    }

    private static void headers() {
        TarArchive x = new TarArchive(8, 12);
        String[] paths = {"c", "b", "b/z", "a", "c/y", "b/x"};
        int[] parents = {-1, -1, 1, -1, 0, 1};
        for (int i = 0; i < paths.length; i++) {
            Kit.dir(x, parents[i], paths[i].substring(paths[i].length() - 1));
        }
        Kit.due("create()", x.create(), 8);
        for (int i = 0; i < paths.length; i++) {
            dueBytes("header " + i, x, 64 * i, field(paths[i], 12));
        }
    }

    private static void dataBlocks() {
        for (int size : new int[] {0, 1, 31, 32}) {
            TarArchive x = new TarArchive(8, 12);
            Kit.file(x, -1, "f");
            Kit.fill(x, 0, size);
            Kit.link(x, -1, "l", 0);
            int data = size > 0 ? 64 : 0;
            Kit.due("create() with size " + size, x.create(), size > 0 ? 5 : 4);
            dueBytes("the FILE's header", x, 0, field("f", 12));
            dueBytes("the next header", x, 64 + data, field("l", 12));
            dueBytes("what follows the LINK", x, 128 + data, field("", 64));
        }
    }

    private static void data() {
        for (int size = 1; size <= 32; size++) {
            TarArchive x = new TarArchive(2, 4);
            for (int pos = 0; pos < 256; pos++) {
                x.appendArchive(255);
            }
            Kit.file(x, -1, "f");
            Kit.fill(x, 0, size);
            x.create();
            for (int k = 0; k < 64; k++) {
                Kit.due("data byte " + k, x.archiveByte(64 + k), k < size ? x.nodeByte(0, 0, k) : 0);
            }
        }
    }

    private static void endBlocks() {
        for (int nodes = 0; nodes <= 8; nodes++) {
            TarArchive x = new TarArchive(8, 12);
            for (int pos = 0; pos < 768; pos++) {
                x.appendArchive(255);
            }
            for (int i = 0; i < nodes; i++) {
                Kit.dir(x, -1, "d" + i);
            }
            Kit.due("create()", x.create(), nodes + 2);
            dueBytes("the end", x, 64 * nodes, field("", 128));
            Kit.due("after the end", x.archiveByte(64 * nodes + 128), TarArchive.ERR_ARG);
        }
    }

    private static void length() {
        for (int old : new int[] {0, 1, 128, 200, 768}) {
            TarArchive x = new TarArchive(8, 12);
            for (int pos = 0; pos < old; pos++) {
                x.appendArchive(1);
            }
            x.create();
            Kit.due("archiveLength() of no node", x.archiveLength(), 128);
            for (int i = 0; i < 8; i++) {
                Kit.dir(x, -1, "d" + i);
                int blocks = x.create();
                Kit.due("archiveLength()", x.archiveLength(), 64 * blocks);
                Kit.due("archiveLength()", x.archiveLength(), 64 * (i + 3));
            }
        }
    }

    private static void texts() {
        // Paths of many lengths, over an archive full of other bytes.
        TarArchive x = Kit.chain("a/bcde/fgh/uvw/xyz/0123");
        for (int pos = 0; pos < 768; pos++) {
            x.appendArchive('q');
        }
        x.create();
        String[] names = {"a", "a/bcde", "a/bcde/fgh", "bcde/fgh/uvw", "fgh/uvw/xyz", "uvw/xyz/0123"};
        String[] prefixes = {"", "", "", "a", "a/bcde", "a/bcde/fgh"};
        for (int i = 0; i < 6; i++) {
            dueBytes("name of " + i, x, 64 * i, field(names[i], 12));
            dueBytes("prefix of " + i, x, 64 * i + 47, field(prefixes[i], 10));
        }
    }

    private static void modes() {
        TarArchive x = five();
        x.create();
        String[] want = {"751", "604", "000", "000", "000"};
        for (int i = 0; i < 5; i++) {
            dueBytes("mode of " + i, x, FIVE_AT[i] + 12, want[i] + "\0");
        }
        TarArchive most = new TarArchive(2, 4);
        most.addNode(-1, TarArchive.KIND_DIR, 'd', 511);
        most.create();
        dueBytes("mode 511", most, 12, "777\0");
    }

    private static void sizes() {
        TarArchive x = five();
        x.create();
        String[] want = {"000", "011", "000", "000", "000"};
        for (int i = 0; i < 5; i++) {
            dueBytes("size of " + i, x, FIVE_AT[i] + 16, want[i] + "\0");
        }
        Kit.fill(x, 2, 32);
        x.create();
        dueBytes("size 32", x, 192 + 16, "040\0");
        dueBytes("size of the LINK to it", x, 384 + 16, "000\0");
    }

    private static void types() {
        TarArchive x = five();
        x.create();
        for (int i = 0; i < 5; i++) {
            Kit.due("typeflag of " + i, x.archiveByte(FIVE_AT[i] + 26), "50011".charAt(i));
        }
    }

    private static void linknames() {
        TarArchive x = five();
        for (int pos = 0; pos < 768; pos++) {
            x.appendArchive('q');
        }
        x.create();
        String[] want = {"", "", "", "d/f", "e"};
        for (int i = 0; i < 5; i++) {
            dueBytes("linkname of " + i, x, FIVE_AT[i] + 27, field(want[i], 12));
        }
        for (int length = 1; length <= 12; length++) {
            String path = pathOf(length);
            int slash = path.lastIndexOf('/');
            TarArchive y = slash < 0 ? new TarArchive(8, 12) : Kit.chain(path.substring(0, slash));
            int target = Kit.file(y, y.nodeCount(0) - 1, path.substring(slash + 1));
            int link = Kit.link(y, -1, "zz", target);
            y.create();
            dueBytes("linkname of " + length, y, 64 * link + 27, field(path, 12));
        }
    }

    private static void constantBytes() {
        TarArchive x = five();
        for (int pos = 0; pos < 768; pos++) {
            x.appendArchive('q');
        }
        x.create();
        for (int at : FIVE_AT) {
            dueBytes("bytes 39..46", x, at + 39, "ustar\00000");
            dueBytes("bytes 57..63", x, at + 57, field("", 7));
        }
    }

    private static void checksums() {
        TarArchive x = five();
        x.create();
        for (int at : FIVE_AT) {
            int sum = Kit.checksum(Kit.blockAt(x, at / 64));
            dueBytes("chksum", x, at + 20, String.format("%05o\0", sum));
        }
    }

    private static void octal() {
        for (int mode = 0; mode <= 511; mode++) {
            TarArchive x = new TarArchive(2, 4);
            x.addNode(-1, TarArchive.KIND_FILE, 'f', mode);
            Kit.fill(x, 0, mode % 33);
            x.create();
            dueBytes("mode", x, 12, String.format("%03o\0", mode));
            dueBytes("size", x, 16, String.format("%03o\0", mode % 33));
            dueBytes("chksum", x, 20, String.format("%05o\0", Kit.checksum(Kit.blockAt(x, 0))));
        }
    }

    private static void rest() {
        TarArchive x = Kit.busy();
        String before = besideArchive(x);
        Kit.due("create()", x.create(), 8);
        Kit.due("trees and errorBlock()", besideArchive(x), before);
        x.extract();
        before = besideArchive(x);
        Kit.due("create() again", x.create(), 8);
        Kit.due("trees and errorBlock()", besideArchive(x), before);
    }

    private static void answers() {
        TarArchive x = new TarArchive(8, 12);
        for (int i = 0; i < 5; i++) {
            Kit.due("create()", x.create(), 2 + 2 * i);
            Kit.file(x, -1, "f" + i);
            Kit.due("create()", x.create(), 3 + 2 * i);
            Kit.fill(x, i, 1 + 7 * i);
        }
        Kit.due("create()", x.create(), 12);
        Kit.due("create() of the same", x.create(), 12);
    }

    private static void empty() {
        for (int maxBlocks : new int[] {4, 12}) {
            TarArchive x = new TarArchive(2, maxBlocks);
            Kit.due("create()", x.create(), 2);
            Kit.due("archiveLength()", x.archiveLength(), 128);
            dueBytes("the archive", x, 0, field("", 128));
            Kit.due("extract()", x.extract(), 0);
        }
    }
}
