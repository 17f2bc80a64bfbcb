import java.util.function.IntSupplier;

/** What the tests share: counting wrong answers, packing names, looking at whole objects. */
final class Kit {
    private static final int[][] BUSY_ARCHIVE = {header("x", '0', 3, ""), put(zeros(), 0, "\u00ff\0\t"), header("y", '5', 0, ""),
        header("y/z", '1', 0, "x"), put(new int[45], 41, "busy")};

    private static int wrong = 0;
    private static int checked = 0;

    private Kit() {
    }

    static void due(String call, long got, long want) {
        checked++;
        if (got != want) {
            wrong++;
            System.out.println(call + " answered " + got + ", due is " + want);
        }
    }

    static void due(String what, String got, String want) {
        checked++;
        if (!got.equals(want)) {
            wrong++;
            System.out.println(what + " is\n  " + got + "\ndue is\n  " + want);
        }
    }

    /** The call answers the error and changes nothing that can be seen. */
    static void refused(TarArchive x, String call, IntSupplier made, int error) {
        String before = all(x);
        due(call, made.getAsInt(), error);
        due("the object after the refused " + call, all(x), before);
    }

    static int checked() {
        return checked;
    }

    static int wrong() {
        return wrong;
    }

    static void end(Class<?> test) {
        System.out.println(test.getSimpleName() + ": " + checked + " checks, " + wrong + " wrong");
        if (wrong != 0 || checked == 0) {
            System.exit(1);
        }
    }

    static int name(String text) {
        int packed = 0;
        for (int k = 0; k < text.length(); k++) {
            packed |= text.charAt(k) << (8 * k);
        }
        return packed;
    }

    static int dir(TarArchive x, int parent, String name) {
        return x.addNode(parent, TarArchive.KIND_DIR, name(name), 0755);
    }

    static int file(TarArchive x, int parent, String name) {
        return x.addNode(parent, TarArchive.KIND_FILE, name(name), 0644);
    }

    static int link(TarArchive x, int parent, String name, int target) {
        return x.addNode(parent, TarArchive.KIND_LINK, name(name), target);
    }

    static void fill(TarArchive x, int node, int size) {
        for (int k = 0; k < size; k++) {
            x.appendData(node, (k * 37 + node + 1) & 255);
        }
    }

    /** A chain of DIRs down this path, each in the one before. */
    static TarArchive chain(String path) {
        TarArchive x = new TarArchive(8, 12);
        String[] names = path.split("/");
        for (int i = 0; i < names.length; i++) {
            due("addNode of " + names[i], dir(x, i - 1, names[i]), i);
        }
        return x;
    }

    /**
     * An object of which every part holds something of its own: 4 source nodes, 3 other extracted ones, 301 bytes and
     * block 4. It is held against what it must be, so that no call that builds it hides what the call changes besides.
     */
    static TarArchive busy() {
        TarArchive x = new TarArchive(8, 12);
        dir(x, -1, "d");
        file(x, 0, "f");
        link(x, -1, "l", 1);
        fill(x, 1, 4);
        x.create();
        load(x, BUSY_ARCHIVE);
        x.extract();
        x.addNode(0, TarArchive.KIND_FILE, 'e', 0600);
        fill(x, 3, 2);
        due("the busy object", all(x), busyState());
        // The second look shows what the getters of the first one have changed.
        due("the busy object again", all(x), busyState());
        return x;
    }

    private static String busyState() {
        String source = "4: [3 -1 100 493 0 -1 | -2 -2] [1 0 102 420 4 -1 | -2 2 39 76 113 -2] "
            + "[2 -1 108 420 4 1 | -2 2 39 76 113 -2] [1 0 101 384 2 -1 | -2 4 41 -2]";
        String extracted = "3: [1 -1 120 420 3 -1 | -2 255 0 9 -2] [3 -1 121 420 0 -1 | -2 -2] [2 1 122 420 3 0 | -2 255 0 9 -2]";
        StringBuilder archive = new StringBuilder("301:");
        for (int[] block : BUSY_ARCHIVE) {
            for (int value : block) {
                archive.append(' ').append(value);
            }
        }
        return source + " / " + extracted + " / " + archive + " -2 / 4";
    }

    /** What the getters answer in their ranges, without any call that is refused. */
    static String answers(TarArchive x) {
        StringBuilder s = new StringBuilder();
        for (int t = 0; t <= 1; t++) {
            for (int i = 0; i < x.nodeCount(t); i++) {
                for (int what = 0; what <= 5; what++) {
                    s.append(x.nodeInfo(t, i, what)).append(' ');
                }
                for (int k = 0; k < x.nodeInfo(t, i, TarArchive.INFO_SIZE); k++) {
                    s.append(x.nodeByte(t, i, k)).append(' ');
                }
            }
            s.append("/ ");
        }
        for (int pos = 0; pos < x.archiveLength(); pos++) {
            s.append(x.archiveByte(pos)).append(' ');
        }
        return s.append("/ ").append(x.errorBlock()).toString();
    }

    static String tree(TarArchive x, int t) {
        StringBuilder s = new StringBuilder();
        int count = x.nodeCount(t);
        s.append(count).append(':');
        for (int i = 0; i < count; i++) {
            s.append(" [");
            for (int what = 0; what <= 5; what++) {
                s.append(x.nodeInfo(t, i, what)).append(' ');
            }
            s.append('|');
            int size = x.nodeInfo(t, i, TarArchive.INFO_SIZE);
            for (int k = -1; k <= size; k++) {
                s.append(' ').append(x.nodeByte(t, i, k));
            }
            s.append(']');
        }
        return s.toString();
    }

    static String archive(TarArchive x) {
        StringBuilder s = new StringBuilder();
        int length = x.archiveLength();
        s.append(length).append(':');
        for (int pos = 0; pos <= length; pos++) {
            s.append(' ').append(x.archiveByte(pos));
        }
        return s.toString();
    }

    static String all(TarArchive x) {
        return tree(x, 0) + " / " + tree(x, 1) + " / " + archive(x) + " / " + x.errorBlock();
    }

    /** Everything but the extracted tree and errorBlock(): what extract() must leave alone. */
    static String besideExtracted(TarArchive x) {
        return tree(x, 0) + " / " + archive(x);
    }

    /** A header block made by hand, with its checksum. */
    static int[] header(String path, int type, int size, String link) {
        int[] block = new int[64];
        put(block, 0, path);
        put(block, 12, "644");
        put(block, 16, String.format("%03o", size));
        block[26] = type;
        put(block, 27, link);
        put(block, 39, "ustar\00000");
        return seal(block);
    }

    static int[] put(int[] block, int at, String text) {
        for (int k = 0; k < text.length(); k++) {
            block[at + k] = text.charAt(k);
        }
        return block;
    }

    static int[] seal(int[] block) {
        put(block, 20, String.format("%05o", checksum(block)));
        block[25] = 0;
        return block;
    }

    static int checksum(int[] block) {
        int sum = 0;
        for (int k = 0; k < 64; k++) {
            sum += k >= 20 && k <= 25 ? 32 : block[k];
        }
        return sum;
    }

    static int[] blockAt(TarArchive x, int b) {
        int[] block = new int[64];
        for (int k = 0; k < 64; k++) {
            block[k] = x.archiveByte(64 * b + k);
        }
        return block;
    }

    /** Makes the archive these blocks, whatever it was. */
    static void load(TarArchive x, int[]... blocks) {
        x.truncateArchive(0);
        for (int[] block : blocks) {
            feed(x, block);
        }
    }

    static void feed(TarArchive x, int[] bytes) {
        for (int value : bytes) {
            x.appendArchive(value);
        }
    }

    static int[] zeros() {
        return new int[64];
    }
}
