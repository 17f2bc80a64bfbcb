import java.util.TreeMap;

/** All promises: long runs of mixed calls, each answer and each state held against the model. */
public final class ModelTest {
    private static final int RUNS = 2000;
    private static final int CALLS = 150;
    private static final int[] ODD = {Integer.MIN_VALUE, -9, -3, -2, -1, 0, 1, 2, 3, 7, 8, 9, 31, 32, 33, 63, 64, 255, 256,
        511, 512, 767, 768, 769, Integer.MAX_VALUE};
    private static final String[] NAMES = {"a", "b", "ab", "abc", "abcd", "z_9", "0"};

    private final TarArchive x;
    private final Model m;
    private final TreeMap<String, Integer> met;
    private long seed;
    private final StringBuilder log = new StringBuilder();
    private boolean same = true;

    private ModelTest(int run, TreeMap<String, Integer> met) {
        this.seed = run * 7919L + 12345;
        this.met = met;
        int maxNodes = run % 3 == 0 ? odd() : 8 - below(3);
        int maxBlocks = run % 3 == 0 ? odd() : 12 - below(4);
        x = new TarArchive(maxNodes, maxBlocks);
        m = new Model(maxNodes, maxBlocks);
        log.append("new TarArchive(" + maxNodes + ", " + maxBlocks + ")");
    }

    public static void main(String[] args) {
        TreeMap<String, Integer> met = new TreeMap<>();
        for (int run = 0; run < RUNS; run++) {
            new ModelTest(run, met).play();
        }
        for (int error = TarArchive.ERR_PADDING; error <= TarArchive.ERR_TRUNCATED; error++) {
            reached(met, "extract " + error);
        }
        int[] both = {TarArchive.ERR_NAME, TarArchive.ERR_PARENT, TarArchive.ERR_DUPLICATE, TarArchive.ERR_LINK};
        for (int error : both) {
            reached(met, "extract " + error);
            reached(met, "addNode " + error);
        }
        reached(met, "addNode " + TarArchive.ERR_DEPTH);
        reached(met, "create " + TarArchive.ERR_NAME_TOO_LONG);
        reached(met, "create " + TarArchive.ERR_ARCHIVE_FULL);
        reached(met, "appendData " + TarArchive.ERR_FULL);
        reached(met, "extract 8");
        Kit.end(ModelTest.class);
    }

    /** A run of calls that never meets an answer proves nothing about it. */
    private static void reached(TreeMap<String, Integer> met, String answer) {
        Kit.due("times of " + answer + ", at least 5", Math.min(5, met.getOrDefault(answer, 0)), 5);
    }

    // The numbers are the same on every run: a plain congruence, no random source.
    private int below(int bound) {
        seed = seed * 6364136223846793005L + 1442695040888963407L;
        return (int) ((seed >>> 33) % bound);
    }

    private int odd() {
        return ODD[below(ODD.length)];
    }

    private int oddOr(int value) {
        return below(12) == 0 ? odd() : value;
    }

    private void play() {
        for (int call = 0; call < CALLS && same; call++) {
            step();
            compareStates();
        }
        Kit.due(same ? "a run" : log.toString(), same ? 1 : 0, 1);
    }

    private void answered(String method, String args, int got, int want) {
        log.append("; ").append(method).append('(').append(args).append(')');
        if (got != want) {
            log.append(" = ").append(got).append(", due is ").append(want);
            same = false;
        }
        met.merge(method + " " + want, 1, Integer::sum);
    }

    private void step() {
        int choice = below(100);
        if (choice < 25) {
            addNode();
        } else if (choice < 45) {
            appendData();
        } else if (choice < 55) {
            answered("create", "", x.create(), m.create());
        } else if (choice < 70) {
            answered("extract", "", x.extract(), m.extract());
        } else if (choice < 85) {
            edit();
        } else if (choice < 88) {
            int len = below(2) == 0 ? odd() : x.archiveLength() - below(140);
            answered("truncateArchive", "" + len, x.truncateArchive(len), m.truncateArchive(len));
        } else if (choice < 94) {
            appendBlock();
        } else {
            getters();
        }
    }

    private void addNode() {
        int count = x.nodeCount(0);
        int kind = oddOr(below(2) == 0 ? TarArchive.KIND_DIR : 1 + below(3));
        int parent = oddOr(below(3) == 0 ? count - 1 : below(count + 1) - 1);
        int name = oddOr(Kit.name(NAMES[below(NAMES.length)]));
        int last = oddOr(kind == TarArchive.KIND_LINK ? below(count + 1) : below(512));
        answered("addNode", parent + ", " + kind + ", " + name + ", " + last, x.addNode(parent, kind, name, last),
            m.addNode(parent, kind, name, last));
    }

    private void appendData() {
        int node = oddOr(below(9));
        int times = below(6) == 0 ? 33 : 1 + below(3);
        for (int k = 0; k < times; k++) {
            int value = oddOr(below(256));
            answered("appendData", node + ", " + value, x.appendData(node, value), m.appendData(node, value));
        }
    }

    private void poke(int pos, int value) {
        answered("pokeArchive", pos + ", " + value, x.pokeArchive(pos, value), m.pokeArchive(pos, value));
    }

    /** Spoils bytes here and there, and mostly makes the checksum right again. */
    private void edit() {
        int blocks = x.archiveLength() / 64;
        if (blocks == 0 || below(8) == 0) {
            poke(odd(), odd());
            return;
        }
        int b = below(blocks);
        int[] values = {0, '/', 'a', 'b', '0', '1', '5', '7', '8', '_', below(256)};
        int times = 1 + below(3);
        for (int k = 0; k < times; k++) {
            poke(64 * b + below(64), values[below(values.length)]);
        }
        if (below(5) == 0) {
            copyText(b);
        }
        if (below(6) != 0) {
            mend(b);
        }
    }

    /** Gives one header the name or linkname of another header's name. */
    private void copyText(int b) {
        int from = 64 * below(x.archiveLength() / 64);
        int to = 64 * b + (below(2) == 0 ? 0 : 27);
        for (int k = 0; k < 12; k++) {
            poke(to + k, x.archiveByte(from + k));
        }
    }

    private void mend(int b) {
        int[] block = Kit.seal(Kit.blockAt(x, b));
        for (int k = 20; k <= 25; k++) {
            poke(64 * b + k, block[k]);
        }
    }

    /** Appends a header made by hand, or a copy of an old block, or bytes as they come. */
    private void appendBlock() {
        String path = NAMES[below(NAMES.length)];
        if (below(2) == 0) {
            path += "/" + NAMES[below(NAMES.length)];
        }
        int type = "015".charAt(below(3));
        int[] block = Kit.header(path, type, type == '0' ? below(40) : 0, type == '1' ? NAMES[below(NAMES.length)] : "");
        int whole = x.archiveLength() / 64;
        if (below(3) == 0 && whole > 0) {
            block = Kit.blockAt(x, below(whole));
        }
        // Over the end blocks, so that what is appended is read.
        if (below(2) == 0 && whole >= 2) {
            int len = 64 * (whole - 2);
            answered("truncateArchive", "" + len, x.truncateArchive(len), m.truncateArchive(len));
        }
        for (int value : block) {
            answered("appendArchive", "" + value, x.appendArchive(value), m.appendArchive(value));
        }
        int value = odd();
        for (int k = 0; k < 128 * below(2); k++) {
            answered("appendArchive", "0", x.appendArchive(0), m.appendArchive(0));
        }
        if (below(4) == 0) {
            answered("appendArchive", "" + value, x.appendArchive(value), m.appendArchive(value));
        }
    }

    private void getters() {
        int t = oddOr(below(2));
        int i = odd();
        int k = odd();
        answered("nodeCount", "" + t, x.nodeCount(t), m.nodeCount(t));
        answered("nodeInfo", t + ", " + i + ", " + k, x.nodeInfo(t, i, k), m.nodeInfo(t, i, k));
        answered("nodeByte", t + ", " + i + ", " + k, x.nodeByte(t, i, k), m.nodeByte(t, i, k));
        answered("archiveByte", "" + k, x.archiveByte(k), m.archiveByte(k));
    }

    private void compareStates() {
        same &= x.errorBlock() == m.errorBlock() && x.archiveLength() == m.archiveLength();
        for (int pos = -1; pos <= m.archiveLength(); pos++) {
            same &= x.archiveByte(pos) == m.archiveByte(pos);
        }
        for (int t = 0; t <= 1; t++) {
            same &= x.nodeCount(t) == m.nodeCount(t);
            for (int i = -1; i <= m.nodeCount(t); i++) {
                for (int what = -1; what <= 6; what++) {
                    same &= x.nodeInfo(t, i, what) == m.nodeInfo(t, i, what);
                }
                for (int k = -1; k <= 32; k++) {
                    same &= x.nodeByte(t, i, k) == m.nodeByte(t, i, k);
                }
            }
        }
    }
}
