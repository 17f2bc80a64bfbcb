/** Promise 5: extract() over archives made by hand, and errorBlock(). */
public final class ExtractTest extends Blocks {
    public static void main(String[] args) {
        ends();
        checksums();
        magic();
        types();
        fields();
        sizes();
        names();
        tooMany();
        parents();
        duplicates();
        links();
        dataBlocks();
        order();
        nodesMade();
        errorBlockOverTime();
        Kit.end(ExtractTest.class);
    }

    private static void ends() {
        read("L = 0", TarArchive.ERR_TRUNCATED, 0, 0);
        read("L = 1", TarArchive.ERR_TRUNCATED, 0, 0, new int[1]);
        read("L = 63", TarArchive.ERR_TRUNCATED, 0, 0, new int[63]);
        read("L = 64", TarArchive.ERR_TRUNCATED, 1, 0, new int[64]);
        read("L = 127", TarArchive.ERR_TRUNCATED, 1, 0, new int[127]);
        read("L = 128", 0, -1, 0, new int[128]);
        read("one header alone", TarArchive.ERR_TRUNCATED, 1, 1, dir("a"));
        read("a header and half a block", TarArchive.ERR_TRUNCATED, 1, 1, dir("a"), new int[63]);
        read("a header and one end block", TarArchive.ERR_TRUNCATED, 2, 1, dir("a"), END);
        read("a header and both", 1, -1, 1, dir("a"), END, END);
        for (int at = 0; at < 64; at++) {
            read("second end block not 0 at " + at, TarArchive.ERR_BAD_END, 2, 1, dir("a"), END, speck(at));
            read("first end block not 0 at " + at, TarArchive.ERR_CHECKSUM, 1, 1, dir("a"), speck(at), END);
        }
        read("a header after one end block", TarArchive.ERR_BAD_END, 1, 0, END, dir("a"), END, END);
        read("bytes after the end", 1, -1, 1, dir("a"), END, END, speck(0), dir("a"), new int[] {1, 2, 3});

        TarArchive x = new TarArchive(8, 4);
        Kit.load(x, dir("a"), dir("b"), dir("c"), dir("d"));
        extract(x, "a full archive without end", TarArchive.ERR_TRUNCATED, 4, 4);
        Kit.load(x, dir("a"), dir("b"), dir("c"), END);
        extract(x, "a full archive with half an end", TarArchive.ERR_TRUNCATED, 4, 3);
        Kit.load(x, dir("a"), dir("b"), dir("c"), file("f", 1));
        extract(x, "a full archive without its data", TarArchive.ERR_TRUNCATED, 4, 3);
        Kit.load(x, dir("a"), dir("b"), file("f", 1), END);
        extract(x, "a full archive that ends in data", TarArchive.ERR_TRUNCATED, 4, 3);
        // What stands behind L is gone, though it was whole.
        x.truncateArchive(0);
        Kit.load(x, dir("a"), END, END);
        x.truncateArchive(191);
        extract(x, "an end cut by one byte", TarArchive.ERR_TRUNCATED, 2, 1);
        x.appendArchive(0);
        extract(x, "the end made whole again", 1, -1, 1);
    }

    private static void checksums() {
        int[] good = dir("a");
        for (int at = 0; at < 64; at++) {
            int[] bad = good.clone();
            bad[at] ^= 1;
            read("byte " + at + " changed", TarArchive.ERR_CHECKSUM, 0, 0, bad, END, END);
        }
        for (int at = 20; at <= 24; at++) {
            for (int value : new int[] {0, ' ', '/', '8', 'a', 255}) {
                int[] bad = good.clone();
                bad[at] = value;
                read("checksum digit " + value, TarArchive.ERR_CHECKSUM, 0, 0, bad, END, END);
            }
        }
        int[] noZero = good.clone();
        noZero[25] = ' ';
        read("byte 25 not 0", TarArchive.ERR_CHECKSUM, 0, 0, noZero, END, END);
        digitEight();
        // Bytes count as 0..255, not as signed ones: the sum is right, and the next fault answers.
        read("a block of 255s", TarArchive.ERR_MAGIC, 0, 0, Kit.seal(filled(255)), END, END);
        read("a checksum below", TarArchive.ERR_CHECKSUM, 0, 0, summed(good, -1), END, END);
        read("a checksum above", TarArchive.ERR_CHECKSUM, 0, 0, summed(good, 1), END, END);
        read("a checksum far above", TarArchive.ERR_CHECKSUM, 0, 0, summed(good, 8192), END, END);
    }

    /** The digit 8 with one less before it gives the same value, and is no octal digit all the same. */
    private static void digitEight() {
        int met = 0;
        for (char c = 'a'; c <= 'z'; c++) {
            int[] block = dir("" + c);
            if (block[24] == '0' && block[23] > '0') {
                block[24] = '8';
                block[23]--;
                read("a digit 8", TarArchive.ERR_CHECKSUM, 0, 0, block, END, END);
                met++;
            }
        }
        Kit.due("a digit 8 was tried", met > 0 ? 1 : 0, 1);
    }

    private static int[] filled(int value) {
        int[] block = new int[64];
        java.util.Arrays.fill(block, value);
        return block;
    }

    private static int[] summed(int[] header, int more) {
        return Kit.put(header.clone(), 20, String.format("%05o", Kit.checksum(header) + more));
    }

    private static void magic() {
        for (int at = 39; at <= 46; at++) {
            for (int value : new int[] {1, ' ', 'x', 255}) {
                read("byte " + at + " = " + value, TarArchive.ERR_MAGIC, 0, 0, with(dir("a"), at, value), END, END);
            }
        }
        read("old magic", TarArchive.ERR_MAGIC, 0, 0, withText(dir("a"), 39, "ustar  \0"), END, END);
    }

    private static void types() {
        for (int type = 0; type < 256; type++) {
            if (type != '0' && type != '1' && type != '5') {
                read("type " + type, TarArchive.ERR_TYPE, 0, 0, with(dir("a"), 26, type), END, END);
            }
        }
    }

    private static void fields() {
        for (int at = 12; at <= 19; at++) {
            boolean closing = at == 15 || at == 19;
            for (int value : new int[] {0, 1, ' ', '/', '8', '9', 255}) {
                if (!(closing && value == 0)) {
                    read("byte " + at + " = " + value, TarArchive.ERR_FIELD, 0, 0, with(file("a", 0), at, value), END, END);
                }
            }
        }
        for (int at = 57; at <= 63; at++) {
            read("byte " + at + " not 0", TarArchive.ERR_FIELD, 0, 0, with(dir("a"), at, 1), END, END);
        }
        for (int size : new int[] {1, 8, 32, 33, 64, 511}) {
            read("a DIR of size " + size, TarArchive.ERR_FIELD, 0, 0, Kit.header("a", '5', size, ""), END, END);
            read("a LINK of size " + size, TarArchive.ERR_FIELD, 2, 1, file("f", 1), speck(0),
                Kit.header("a", '1', size, "f"), END, END);
        }
        for (int mode = 0; mode <= 511; mode++) {
            TarArchive x = read("mode " + mode, 1, -1, 1, withText(dir("a"), 12, String.format("%03o", mode)), END, END);
            Kit.due("the mode", x.nodeInfo(1, 0, TarArchive.INFO_MODE), mode);
        }
    }

    private static void sizes() {
        for (int size = 0; size <= 511; size++) {
            int[] data = Kit.zeros();
            java.util.Arrays.fill(data, 0, Math.min(size, 64), 200);
            if (size == 0) {
                read("size 0", 1, -1, 1, file("f", 0), END, END);
            } else if (size <= 32) {
                TarArchive x = read("size " + size, 2, -1, 2, file("f", size), data, dir("d"), END, END);
                Kit.due("the size", x.nodeInfo(1, 0, TarArchive.INFO_SIZE), size);
                Kit.due("the last byte", x.nodeByte(1, 0, size - 1), 200);
            } else {
                read("size " + size, TarArchive.ERR_TOO_BIG, 0, 0, file("f", size), data, END, END);
            }
        }
    }

    private static void badName(String prefix, String name) {
        int[] header = withText(dir(name), 47, prefix);
        String what = "prefix '" + prefix + "', name '" + name + "'";
        read(what, TarArchive.ERR_NAME, 4, 4, dir("a"), dir("a/b"), dir("abcd"), dir("abcd/efgh"), header, END, END);
    }

    private static void names() {
        String[] bad = {"", "/", "A", "a.", "a b", "abcde", "/a", "a/", "a//c", "a/b/", "a/abcde", "a/b/c/d/e/f",
            "a/B", "a\0b", "\0a", "a\0\0\0\0\0\0\0\0\0\0b", "\u00e1", "a/\u00ff", "aaaabbbbcccc", "a-", "a:", "`", "{"};
        for (String name : bad) {
            if (!name.equals("a/b/c/d/e/f")) {
                badName("", name);
            }
            badName("a", name);
        }
        String[] badPrefixes = {"/", "/a", "a/", "A", "abcde", "a//b", "a\0b", "\0a", "\0\0\0\0\0\0\0\0\0a", "a/b/c/d/e/",
            "abcdefghij", "\u00e1", "."};
        for (String prefix : badPrefixes) {
            badName(prefix, "c");
        }
        badName("a/b/c/d/e", "f/g");
        badName("a/b", "c/d/e/f/g");
        badName("a", "");
        everyNameByte();

        int[] byPrefix = withText(dir("c"), 47, "a/b");
        TarArchive x = read("a short path with a prefix", 3, -1, 3, dir("a"), dir("a/b"), byPrefix, END, END);
        Kit.due("its parent", x.nodeInfo(1, 2, TarArchive.INFO_PARENT), 1);
        Kit.due("its name", x.nodeInfo(1, 2, TarArchive.INFO_NAME), 'c');

        int[] fullFields = withText(dir("i/jkl/mn/opq"), 47, "abcd/ef/gh");
        read("full fields and 7 components", TarArchive.ERR_NAME, 0, 0, fullFields, END, END);
        fullFields = withText(dir("ijk/lmn/opqr"), 47, "abcd/ef/gh");
        x = read("full fields and 6 components", 6, -1, 6, dir("abcd"), dir("abcd/ef"), dir("abcd/ef/gh"),
            withText(dir("ijk"), 47, "abcd/ef/gh"), withText(dir("ijk/lmn"), 47, "abcd/ef/gh"), fullFields, END, END);
        Kit.due("its name", x.nodeInfo(1, 5, TarArchive.INFO_NAME), Kit.name("opqr"));
        Kit.due("its parent", x.nodeInfo(1, 5, TarArchive.INFO_PARENT), 4);
    }

    private static void everyNameByte() {
        for (int c = 1; c < 256; c++) {
            boolean letter = c >= 'a' && c <= 'z' || c >= '0' && c <= '9' || c == '_';
            String name = "b" + (char) c;
            if (letter) {
                TarArchive x = read("name byte " + c, 1, -1, 1, dir(name), END, END);
                Kit.due("the name", x.nodeInfo(1, 0, TarArchive.INFO_NAME), Kit.name(name));
            } else {
                read("name byte " + c, TarArchive.ERR_NAME, 0, 0, dir(name), END, END);
            }
        }
    }

    private static void tooMany() {
        TarArchive x = new TarArchive(2, 12);
        Kit.load(x, dir("a"), dir("b"), END, END);
        extract(x, "as many as fit", 2, -1, 2);
        Kit.load(x, dir("a"), dir("b"), dir("c"), END, END);
        extract(x, "one DIR too many", TarArchive.ERR_TOO_MANY, 2, 2);
        Kit.load(x, file("a", 1), speck(0), dir("b"), link("c", "a"), END, END);
        extract(x, "one LINK too many", TarArchive.ERR_TOO_MANY, 3, 2);
    }

    private static void parents() {
        read("no parent", TarArchive.ERR_PARENT, 0, 0, dir("a/b"), dir("a"), END, END);
        read("a FILE for parent", TarArchive.ERR_PARENT, 1, 1, file("a", 0), dir("a/b"), END, END);
        read("a LINK for parent", TarArchive.ERR_PARENT, 2, 2, file("a", 0), link("l", "a"), dir("l/b"), END, END);
        read("no grandparent", TarArchive.ERR_PARENT, 1, 1, dir("b"), dir("a/b/c"), END, END);
        read("no parent between", TarArchive.ERR_PARENT, 1, 1, dir("a"), dir("a/b/c"), END, END);
        read("a parent elsewhere", TarArchive.ERR_PARENT, 2, 2, dir("a"), dir("a/b"), dir("b/c"), END, END);
        read("a parent of a longer name", TarArchive.ERR_PARENT, 1, 1, dir("ab"), dir("a/c"), END, END);
        read("a parent of a shorter name", TarArchive.ERR_PARENT, 1, 1, dir("a"), dir("ab/c"), END, END);
        TarArchive x = read("parents", 4, -1, 4, dir("a"), dir("b"), dir("b/a"), file("b/a/b", 0), END, END);
        int[] want = {-1, -1, 1, 2};
        for (int i = 0; i < want.length; i++) {
            Kit.due("parent of " + i, x.nodeInfo(1, i, TarArchive.INFO_PARENT), want[i]);
        }
    }

    private static void duplicates() {
        read("a path twice", TarArchive.ERR_DUPLICATE, 1, 1, dir("a"), dir("a"), END, END);
        read("a path twice, as FILE", TarArchive.ERR_DUPLICATE, 1, 1, dir("a"), file("a", 0), END, END);
        read("a path twice, as LINK", TarArchive.ERR_DUPLICATE, 1, 1, file("a", 0), link("a", "a"), END, END);
        read("a path twice, split", TarArchive.ERR_DUPLICATE, 2, 2, dir("a"), dir("a/b"),
            withText(dir("b"), 47, "a"), END, END);
        read("a name under two parents", 3, -1, 3, dir("a"), dir("a/a"), dir("a/a/a"), END, END);
    }

    private static void links() {
        for (int at = 27; at <= 38; at++) {
            read("a DIR's linkname byte " + at, TarArchive.ERR_LINK, 0, 0, with(dir("a"), at, 1), END, END);
            read("a FILE's linkname byte " + at, TarArchive.ERR_LINK, 0, 0, with(file("a", 0), at, 'a'), END, END);
        }
        String[] bad = {"", "d", "x", "l", "/f", "f/", "d/", "d/x", "d//g", "/d/g", "d/g/", "d/g/x", "g", "F", "ff", "f\0x",
            "f\0\0\0\0\0\0\0\0\0\0x", "\0f", "\0", "abcdefghijkl", "////////////", "f ", "later", "d/ggggg"};
        for (String target : bad) {
            read("the linkname '" + target + "'", TarArchive.ERR_LINK, 4, 3, dir("d"), file("f", 1), speck(0),
                file("d/g", 0), link("l", target), file("late", 0), END, END);
        }
        TarArchive x = read("LINKs", 6, -1, 6, dir("d"), file("d/f", 2), speck(1), link("l", "d/f"), link("d/l", "l"),
            link("m", "d/l"), file("l2", 0), END, END);
        for (int i = 2; i <= 4; i++) {
            Kit.due("target of " + i, x.nodeInfo(1, i, TarArchive.INFO_LINK), 1);
            Kit.due("size of " + i, x.nodeInfo(1, i, TarArchive.INFO_SIZE), 2);
            Kit.due("byte of " + i, x.nodeByte(1, i, 1), 1);
        }
        x = read("a linkname of 12", 4, -1, 4, dir("abcd"), dir("abcd/efgh"), file("abcd/efgh/ij", 0),
            link("l", "abcd/efgh/ij"), END, END);
        Kit.due("its target", x.nodeInfo(1, 3, TarArchive.INFO_LINK), 2);
        // A LINK's header may tell any mode; the LINK shows its target's.
        x = read("a LINK's own mode", 2, -1, 2, file("f", 0), withText(link("l", "f"), 12, "777"), END, END);
        Kit.due("its mode", x.nodeInfo(1, 1, TarArchive.INFO_MODE), 0644);
    }

    private static void dataBlocks() {
        for (int size = 1; size <= 32; size++) {
            read("no data", TarArchive.ERR_TRUNCATED, 2, 1, dir("d"), file("f", size));
            read("data cut", TarArchive.ERR_TRUNCATED, 2, 1, dir("d"), file("f", size), new int[63]);
            for (int at = size; at < 64; at++) {
                read("padding at " + at, TarArchive.ERR_PADDING, 2, 1, dir("d"), file("f", size), speck(at), END, END);
            }
            read("zero data", 2, -1, 2, dir("d"), file("f", size), END, END, END);
            read("zero data and half an end", TarArchive.ERR_TRUNCATED, 4, 2, dir("d"), file("f", size), END, END);
        }
        // Data that look like a header are data.
        int[] inner = new int[64];
        System.arraycopy(dir("a"), 0, inner, 0, 32);
        TarArchive x = read("a header for data", 2, -1, 2, file("f", 32), inner, dir("b"), END, END);
        for (int k = 0; k < 32; k++) {
            Kit.due("nodeByte(1, 0, " + k + ")", x.nodeByte(1, 0, k), inner[k]);
        }
    }

    /** One header with every fault at once; they are mended one by one, each answering in its turn. */
    private static void order() {
        TarArchive x = new TarArchive(2, 12);
        int[] last = file("a\0b", 511);
        last[18] = '9';
        last[26] = '7';
        last[27] = 'x';
        last[39] = 'U';
        last[20] = '9';
        orderStep(x, last, TarArchive.ERR_CHECKSUM);
        orderStep(x, Kit.seal(last), TarArchive.ERR_MAGIC);
        orderStep(x, with(last, 39, 'u'), TarArchive.ERR_TYPE);
        last = with(with(last, 39, 'u'), 26, '0');
        orderStep(x, last, TarArchive.ERR_FIELD);
        last = with(last, 18, '7');
        orderStep(x, last, TarArchive.ERR_TOO_BIG);
        last = withText(last, 16, "040");
        orderStep(x, last, TarArchive.ERR_NAME);
        last = withText(last, 0, "x/b");
        orderStep(x, last, TarArchive.ERR_TOO_MANY);
        x = new TarArchive(3, 12);
        orderStep(x, last, TarArchive.ERR_PARENT);
        last = withText(last, 0, "d/f");
        orderStep(x, last, TarArchive.ERR_DUPLICATE);
        last = withText(last, 0, "d/g");
        orderStep(x, last, TarArchive.ERR_LINK);
        last = with(last, 27, 0);
        Kit.load(x, dir("d"), file("d/f", 0), last, new int[63]);
        extract(x, "every fault mended but the data", TarArchive.ERR_TRUNCATED, 3, 2);
        Kit.load(x, dir("d"), file("d/f", 0), last, speck(63));
        extract(x, "every fault mended but the padding", TarArchive.ERR_PADDING, 3, 2);
        Kit.load(x, dir("d"), file("d/f", 0), last, speck(31), END, END);
        extract(x, "every fault mended", 3, -1, 3);

        // A wrong size of a LINK comes before its name; a size too big is no fault of its kind.
        Kit.load(x, dir("d"), file("d/f", 0), Kit.header("D", '1', 33, "x"));
        extract(x, "a LINK with a big size", TarArchive.ERR_FIELD, 2, 2);
    }

    private static void orderStep(TarArchive x, int[] last, int want) {
        Kit.load(x, dir("d"), file("d/f", 0), last);
        extract(x, "faults from " + want + " on", want, 2, 2);
    }

    private static void nodesMade() {
        int[] data = Kit.zeros();
        data[0] = 255;
        data[2] = 7;
        TarArchive x = read("all kinds", 4, -1, 4, withText(dir("d"), 12, "751"), withText(file("d/f_0", 3), 12, "604"), data,
            link("d/l", "d/f_0"), withText(file("e", 0), 12, "000"), END, END);
        String bytes = "| -2 255 0 7 -2]";
        Kit.due("the extracted tree", Kit.tree(x, 1), "4: [3 -1 100 489 0 -1 | -2 -2] [1 0 " + Kit.name("f_0") + " 388 3 -1 "
            + bytes + " [2 0 108 388 3 1 " + bytes + " [1 -1 101 0 0 -1 | -2 -2]");
        // A smaller tree over it shows nothing of the old one.
        Kit.load(x, file("z", 0), END, END);
        extract(x, "a smaller tree", 1, -1, 1);
        Kit.due("the extracted tree", Kit.tree(x, 1), "1: [1 -1 122 420 0 -1 | -2 -2]");
        Kit.load(x);
        extract(x, "nothing", TarArchive.ERR_TRUNCATED, 0, 0);
        Kit.due("the extracted tree", Kit.tree(x, 1), "0:");
    }

    private static void errorBlockOverTime() {
        TarArchive x = new TarArchive(8, 12);
        Kit.due("errorBlock() at first", x.errorBlock(), -1);
        Kit.load(x, dir("a"), dir("b"), dir("a"));
        Kit.due("errorBlock() before extract()", x.errorBlock(), -1);
        extract(x, "an error", TarArchive.ERR_DUPLICATE, 2, 2);
        x.pokeArchive(0, 'b');
        x.truncateArchive(0);
        x.appendArchive(1);
        Kit.dir(x, -1, "a");
        Kit.file(x, -1, "f");
        x.appendData(1, 1);
        x.create();
        x.archiveByte(0);
        x.nodeInfo(1, 0, 0);
        Kit.due("errorBlock() after other calls", x.errorBlock(), 2);
        extract(x, "success", 2, -1, 2);
        x.truncateArchive(100);
        extract(x, "another error", TarArchive.ERR_TRUNCATED, 1, 1);
    }
}
