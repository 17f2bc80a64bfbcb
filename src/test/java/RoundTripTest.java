/** Promise 5: what create() wrote comes back, and one spoilt byte is noticed. */
public final class RoundTripTest {
    public static void main(String[] args) {
        TarArchive[] objects = {empty(), flat(), deep(), linked(), crowded()};
        for (int i = 0; i < objects.length; i++) {
            comesBack("object " + i, objects[i]);
            spoilt("object " + i, objects[i]);
        }
        manyChains();
        Kit.end(RoundTripTest.class);
    }

    static TarArchive empty() {
        return new TarArchive(2, 4);
    }

    static TarArchive flat() {
        TarArchive x = new TarArchive(8, 12);
        for (int i = 0; i < 5; i++) {
            x.addNode(-1, TarArchive.KIND_FILE, Kit.name("f" + i), 73 * i);
            Kit.fill(x, i, 8 * i);
        }
        return x;
    }

    static TarArchive deep() {
        TarArchive x = new TarArchive(8, 12);
        String[] names = {"abc", "def", "gh", "ijkl", "mn"};
        for (int i = 0; i < names.length; i++) {
            Kit.dir(x, i - 1, names[i]);
        }
        Kit.file(x, 4, "opqr");
        Kit.fill(x, 5, 32);
        return x;
    }

    static TarArchive linked() {
        TarArchive x = new TarArchive(8, 12);
        Kit.dir(x, -1, "abcd");
        Kit.dir(x, 0, "efgh");
        Kit.file(x, 1, "ij");
        Kit.link(x, 1, "z", 2);
        Kit.link(x, -1, "y", 3);
        Kit.file(x, -1, "_");
        Kit.link(x, 0, "_", 5);
        Kit.fill(x, 4, 1);
        return x;
    }

    static TarArchive crowded() {
        TarArchive x = new TarArchive(8, 12);
        Kit.file(x, -1, "a");
        Kit.dir(x, -1, "b");
        Kit.file(x, 1, "a");
        Kit.link(x, 1, "b", 0);
        Kit.dir(x, 1, "c");
        Kit.dir(x, 4, "c");
        Kit.link(x, 5, "c", 2);
        Kit.dir(x, -1, "c");
        Kit.fill(x, 0, 31);
        // Content of 0s alone must not pass for the end.
        for (int k = 0; k < 5; k++) {
            x.appendData(2, 0);
        }
        return x;
    }

    private static void comesBack(String what, TarArchive x) {
        String source = Kit.tree(x, 0);
        int blocks = x.create();
        Kit.due(what + ": create() answers blocks", blocks >= 2 ? 1 : 0, 1);
        String archive = Kit.archive(x);
        Kit.due(what + ": extract()", x.extract(), x.nodeCount(0));
        Kit.due(what + ": errorBlock()", x.errorBlock(), -1);
        Kit.due(what + ": source", Kit.tree(x, 0), source);
        Kit.due(what + ": extracted", Kit.tree(x, 1), source);
        Kit.due(what + ": archive", Kit.archive(x), archive);
    }

    private static void spoilt(String what, TarArchive x) {
        boolean[] content = contentBytes(x);
        for (int pos = 0; pos < x.archiveLength(); pos++) {
            for (int value = 0; value < 256 && !content[pos]; value++) {
                int old = x.pokeArchive(pos, value);
                int answer = x.extract();
                if (old != value) {
                    Kit.due(what + ": byte " + pos + " = " + value + " is noticed", answer < 0 ? 1 : 0, 1);
                    Kit.due(what + ": with its block", x.errorBlock(), pos / 64);
                }
                x.pokeArchive(pos, old);
            }
        }
    }

    static boolean[] contentBytes(TarArchive x) {
        boolean[] content = new boolean[x.archiveLength()];
        int at = 0;
        for (int i = 0; i < x.nodeCount(0); i++) {
            at += 64;
            int size = x.nodeInfo(0, i, TarArchive.INFO_SIZE);
            if (x.nodeInfo(0, i, TarArchive.INFO_KIND) == TarArchive.KIND_FILE && size > 0) {
                java.util.Arrays.fill(content, at, at + size, true);
                at += 64;
            }
        }
        return content;
    }

    /** Chains of six names of every mix of lengths: each that fits comes back. */
    private static void manyChains() {
        for (int mix = 0; mix < 4096; mix++) {
            TarArchive x = new TarArchive(8, 12);
            for (int i = 0; i < 6; i++) {
                int size = 1 + (mix >> (2 * i) & 3);
                Kit.dir(x, i - 1, "wxyz".substring(0, size));
                if (x.create() >= 0) {
                    comesBack("mix " + mix + " of depth " + i, x);
                }
            }
        }
    }
}
