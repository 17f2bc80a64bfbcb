/** The section "Header block": what create() writes and what extract() takes. */
final class HeaderSentences extends Sentences {
    private HeaderSentences() {
    }

    static void run() {
        section("Header block");
        says("A header is one 64-byte block.", HeaderSentences::oneBlock);
        says("Text bytes are ASCII.", HeaderSentences::ascii);
        onlyLeads("Offsets:");
        says("0..11 name: text, then 0s", HeaderSentences::name);
        says("12..15 mode: 3 octal digits ('0'..'7', most significant first), then 0", HeaderSentences::mode);
        says("16..19 size: 3 octal digits, then 0", HeaderSentences::size);
        says("20..25 chksum: 5 octal digits, then 0", HeaderSentences::chksum);
        says("26 typeflag: '0' FILE, '1' LINK, '5' DIR", HeaderSentences::typeflag);
        says("27..38 linkname: text, then 0s", HeaderSentences::linkname);
        says("39..44 'u','s','t','a','r',0", () -> constantBytes(39, "ustar\0"));
        says("45..46 '0','0'", () -> constantBytes(45, "00"));
        says("47..56 prefix: text, then 0s", HeaderSentences::prefix);
        says("57..63 0", () -> constantBytes(57, field("", 7)));
        says("The CHECKSUM of a block is the sum of its 64 bytes as values 0..255,", HeaderSentences::unsignedSum);
        says("with each of bytes 20..25 counted as 32 (a space), whatever they hold.", HeaderSentences::spaces);
        says("A text field's TEXT is its bytes before the first 0 byte", HeaderSentences::texts);
        says("(the whole field if it has no 0 byte).", HeaderSentences::wholeFields);
        says("The field is WELL-FORMED iff every byte after that first 0 is also 0.", HeaderSentences::wellFormed);
    }

    private static void oneBlock() {
        TarArchive x = Kit.chain("a");
        Kit.dir(x, -1, "b");
        Kit.due("create()", x.create(), 4);
        Kit.due("first byte of header 0", x.archiveByte(0), 'a');
        Kit.due("last byte of header 0", x.archiveByte(63), 0);
        Kit.due("first byte of header 1", x.archiveByte(64), 'b');
        read("a header of 64 bytes", 2, -1, 2, dir("a"), dir("b"), END, END);
        read("a header of 63 bytes", TarArchive.ERR_TRUNCATED, 0, 0, java.util.Arrays.copyOf(dir("a"), 63));
        read("a header of 65 bytes", TarArchive.ERR_CHECKSUM, 1, 1, dir("a"), new int[1], dir("b"), END, END);
    }

    private static void ascii() {
        TarArchive x = new TarArchive(8, 12);
        Kit.dir(x, -1, "a09_");
        Kit.dir(x, 0, "z");
        x.create();
        int[] want = {97, 48, 57, 95, 47, 122, 0};
        for (int k = 0; k < want.length; k++) {
            Kit.due("name byte " + k, x.archiveByte(64 + k), want[k]);
        }
        Kit.due("typeflag", x.archiveByte(26), 53);
        Kit.due("digit", x.archiveByte(12), 55);
    }

    private static int depthOf(String path) {
        return path.split("/").length;
    }

    private static void name() {
        for (int length = 1; length <= 12; length++) {
            String path = pathOf(length);
            TarArchive x = Kit.chain(path);
            int depth = depthOf(path);
            Kit.due("create() with " + path, x.create(), depth + 2);
            dueBytes(path, x, 64 * (depth - 1), field(path, 12));
            dueBytes("mode after " + path, x, 64 * (depth - 1) + 12, "755");
            Kit.due("extract() with " + path, x.extract(), depth);
            Kit.due("extracted", Kit.tree(x, 1), Kit.tree(x, 0));
        }
    }

    private static void mode() {
        for (int mode : new int[] {0, 1, 7, 8, 63, 64, 0123, 0700, 510, 511}) {
            TarArchive x = new TarArchive(2, 4);
            x.addNode(-1, TarArchive.KIND_FILE, 'a', mode);
            x.create();
            dueBytes("mode " + mode, x, 12, String.format("%03o\0", mode));
            x.extract();
            Kit.due("extracted mode", x.nodeInfo(1, 0, TarArchive.INFO_MODE), mode);
        }
    }

    private static void size() {
        for (int size = 0; size <= 32; size++) {
            TarArchive x = new TarArchive(2, 4);
            Kit.file(x, -1, "a");
            Kit.fill(x, 0, size);
            x.create();
            dueBytes("size " + size, x, 16, String.format("%03o\0", size));
            x.extract();
            Kit.due("extracted size", x.nodeInfo(1, 0, TarArchive.INFO_SIZE), size);
        }
    }

    private static void chksum() {
        for (int length = 1; length <= 12; length++) {
            TarArchive x = Kit.chain(pathOf(length));
            x.create();
            for (int b = 0; b < x.nodeCount(0); b++) {
                String sum = String.format("%05o\0", Kit.checksum(Kit.blockAt(x, b)));
                dueBytes("chksum of " + b, x, 64 * b + 20, sum);
                Kit.due("its first digit", x.archiveByte(64 * b + 20), '0');
            }
        }
    }

    private static void typeflag() {
        TarArchive x = new TarArchive(8, 12);
        Kit.file(x, -1, "f");
        Kit.link(x, -1, "l", 0);
        Kit.dir(x, -1, "d");
        x.create();
        for (int i = 0; i < 3; i++) {
            Kit.due("typeflag of " + i, x.archiveByte(64 * i + 26), "015".charAt(i));
        }
        TarArchive y = read("the three types", 3, -1, 3, file("f", 0), link("l", "f"), dir("d"), END, END);
        for (int i = 0; i < 3; i++) {
            Kit.due("kind of " + i, y.nodeInfo(1, i, TarArchive.INFO_KIND), i + 1);
        }
    }

    private static void linkname() {
        for (int length = 1; length <= 12; length++) {
            String path = pathOf(length);
            int slash = path.lastIndexOf('/');
            TarArchive x = slash < 0 ? new TarArchive(8, 12) : Kit.chain(path.substring(0, slash));
            int target = Kit.file(x, x.nodeCount(0) - 1, path.substring(slash + 1));
            int link = Kit.link(x, -1, "zz", target);
            Kit.due("create() with a LINK to " + path, x.create(), link + 3);
            dueBytes("linkname", x, 64 * link + 27, field(path, 12) + "ustar");
            Kit.due("extract() with a LINK to " + path, x.extract(), link + 1);
            Kit.due("extracted target", x.nodeInfo(1, link, TarArchive.INFO_LINK), target);
        }
    }

    private static void prefix() {
        for (int length = 1; length <= 10; length++) {
            String path = pathOf(length) + "/uvw/xyz/0123";
            TarArchive x = Kit.chain(path);
            int at = 64 * (depthOf(path) - 1);
            Kit.due("create() with " + path, x.create(), depthOf(path) + 2);
            dueBytes("prefix of " + path, x, at + 47, field(pathOf(length), 10) + "\0");
            dueBytes("name of " + path, x, at, "uvw/xyz/0123");
            Kit.due("extract() with " + path, x.extract(), depthOf(path));
            Kit.due("extracted", Kit.tree(x, 1), Kit.tree(x, 0));
        }
    }

    /** These bytes stand in every header that is written, and none may differ in one that is read. */
    private static void constantBytes(int at, String bytes) {
        TarArchive x = new TarArchive(8, 12);
        Kit.file(x, -1, "f");
        Kit.link(x, -1, "l", 0);
        Kit.dir(x, -1, "d");
        x.create();
        for (int i = 0; i < 3; i++) {
            dueBytes("header " + i, x, 64 * i + at, bytes);
        }
        int error = at == 57 ? TarArchive.ERR_FIELD : TarArchive.ERR_MAGIC;
        for (int k = 0; k < bytes.length(); k++) {
            for (int value : new int[] {0, 1, '0', 'u', ' ', 255}) {
                if (value != bytes.charAt(k)) {
                    read("byte " + (at + k) + " = " + value, error, 0, 0, with(dir("a"), at + k, value), END, END);
                }
            }
        }
    }

    /** A right checksum lets the next fault answer. */
    private static void unsignedSum() {
        for (int at = 0; at < 64; at++) {
            if (at < 20 || at > 25) {
                for (int value : new int[] {127, 128, 255}) {
                    int[] header = dir("a");
                    header[39] = 'x';
                    header = with(header, at, value);
                    read("byte " + at + " = " + value, TarArchive.ERR_MAGIC, 0, 0, header, END, END);
                    header[at]--;
                    read("a sum of one less", TarArchive.ERR_CHECKSUM, 0, 0, header, END, END);
                }
            }
        }
        int[] most = new int[64];
        java.util.Arrays.fill(most, 255);
        read("the greatest sum", TarArchive.ERR_MAGIC, 0, 0, Kit.seal(most), END, END);
    }

    private static void spaces() {
        int[] header = dir("a");
        int sum = 6 * 32;
        for (int k = 0; k < 64; k++) {
            sum += k < 20 || k > 25 ? header[k] : 0;
        }
        TarArchive x = new TarArchive(2, 4);
        x.addNode(-1, TarArchive.KIND_DIR, 'a', 0644);
        x.create();
        dueBytes("the sum", x, 20, String.format("%05o\0", sum));
        // What the field itself holds never enters the sum: every name brings other digits.
        for (char c = 'a'; c <= 'z'; c++) {
            read("the name " + c, 1, -1, 1, dir("" + c), END, END);
        }
    }

    private static void texts() {
        TarArchive x = read("texts before a 0", 4, -1, 4, dir("ab"), dir("ab/c"), withText(file("f", 0), 47, "ab"),
            link("l", "ab/f"), END, END);
        Kit.due("the names", Kit.tree(x, 1), "4: [3 -1 25185 420 0 -1 | -2 -2] [3 0 99 420 0 -1 | -2 -2] "
            + "[1 0 102 420 0 -1 | -2 -2] [2 -1 108 420 0 2 | -2 -2]");
        read("an empty name text", TarArchive.ERR_NAME, 0, 0, dir(""), END, END);
        read("an empty linkname text", TarArchive.ERR_LINK, 1, 1, file("f", 0), link("l", ""), END, END);
    }

    private static void wholeFields() {
        int[] parent = withText(dir("uvw/xyz"), 47, "a/bcde/fgh");
        int[] full = withText(dir("uvw/xyz/0123"), 47, "a/bcde/fgh");
        TarArchive x = read("a full name and prefix", 6, -1, 6, dir("a"), dir("a/bcde"), dir("a/bcde/fgh"),
            withText(dir("uvw"), 47, "a/bcde/fgh"), parent, full, END, END);
        Kit.due("its name", x.nodeInfo(1, 5, TarArchive.INFO_NAME), Kit.name("0123"));
        x = read("a full linkname", 4, -1, 4, dir("abc"), dir("abc/def"), file("abc/def/ghij", 0),
            link("l", "abc/def/ghij"), END, END);
        Kit.due("its target", x.nodeInfo(1, 3, TarArchive.INFO_LINK), 2);
    }

    private static void wellFormed() {
        for (int zero = 0; zero < 12; zero++) {
            String text = zero == 0 ? "" : pathOf(zero);
            for (int after = zero + 1; after < 12; after++) {
                String spoilt = field(text, after) + "b";
                read("name, byte " + after, TarArchive.ERR_NAME, 0, 0, dir(spoilt), END, END);
                if (after < 10) {
                    read("prefix, byte " + after, TarArchive.ERR_NAME, 0, 0, withText(dir("c"), 47, spoilt), END, END);
                }
            }
        }
        for (int after = 2; after < 12; after++) {
            int[] spoilt = link("l", field("a", after) + "b");
            read("linkname, byte " + after, TarArchive.ERR_LINK, 1, 1, file("a", 0), spoilt, END, END);
        }
    }
}
